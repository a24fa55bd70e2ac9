/** Promises 9 to 20, and what the terms say of READINGS: each sentence that names a bound, at it and just past it. */
public final class ReadingsBoundsTest {
    public static void main(String[] args) {
        homesAtMost();
        dropsAtMost();
        oneLetterStays();
        backFromLastToFirst();
        unseenHasAnyLetter();
        stepsUpTo20000();
        stepsPast20000AheadOfAllButNone();
        noSuchTongue();
        noGroups();
        readingsOfNone();
        readingsOfUnseenAlone();
        reading0To199();
        readingNotSoMany();
        sureOfNoneOfOneOfAll();
        lettersOfKindsThatThereAre();
        meansOfGroupsThatThereAre();
        meansUpToTheTwentiethWord();
        tonguesTheFirstOfEqualOnes();
        tonguesOfNone();
        tonguesPastTheSteps();
        laxInOrder();
        laxOfUnseenAlone();
        laxOfNone();
        laxPastTheSteps();
        needFromOneToAll();
        needOfMore();
        needPastTheSteps();
        secondEmptiesTheText();
        secondWithAFault();
        secondPastTheSteps();
        chance1To12();
        chancePastTheSteps();
        chanceOfOnePlace();
        nextOfNone();
        nextTheFirstOfEqualOnes();
        blindOfKinds0To11();
        Check.over("bounds of readings");
    }

    private static final String[] EIGHT = {"A", "B", "C", "D", "E", "F", "G", "H"};

    /**
     * With the words of many(): 4 ways for ?a (G, B, A, C), then 28, 168, 840, 3360, b is known, 10080; ag goes with
     * a A, C, G in 720 ways each: 4 + 28 + 168 + 840 + 3360 + 3360 + 10080 + 2160 are 20000 STEPS. A ? ahead is one more.
     */
    private static final String AT_20000 = "?a-b-c-d-e-b-f-ag";
    private static final String AT_20001 = "?-" + AT_20000;

    private static ClayDisc told(String laxness, String disc, String... words) {
        ClayDisc x = new ClayDisc();
        Check.laxness(x, laxness);
        Check.words(x, 0, words);
        Check.disc(x, disc);
        return x;
    }

    private static void many(ClayDisc x, int tongue) {
        Check.words(x, tongue, EIGHT);
        Check.words(x, tongue, "AG", "CB", "GA", "DC", "AA");
    }

    private static Twins.Telling many(String disc) {
        return x -> {
            many(x, 0);
            Check.disc(x, disc);
            x.kinds();
            x.seed(31);
        };
    }

    private static ClayDisc manyTold(String disc) {
        ClayDisc x = new ClayDisc();
        many(disc).tell(x);
        return x;
    }

    private static long[] letters(long... some) {
        long[] all = {-1, -1, -1, -1, -1, -1, -1, -1, -1, -1, -1, -1};
        System.arraycopy(some, 0, all, 0, some.length);
        return all;
    }

    private static void homesAtMost() {
        String[] kinds = {"a", "a-b", "a-b-c", "a-b-c-d"};
        String[] inOneGroup = {"a", "ab", "abc", "abcd"};
        for (int homes = 1; homes <= 3; homes++) {
            for (int n = 1; n <= 4; n++) {
                int due = n <= homes ? 1 : 0;
                Check.due(n + " KINDS for HOMES " + homes, told("h" + homes + "d0", kinds[n - 1], "A").readings(0), due);
                ClayDisc x = told("h" + homes + "d0", inOneGroup[n - 1], "A".repeat(n));
                Check.due(n + " KINDS of a GROUP for HOMES " + homes, x.readings(0), due);
                Check.due("and STEPS", x.count(13), due);
            }
        }
        // Of the last letter too, and where others have as many.
        Check.due("H twice, A twice", told("h2d0", "ab-cd", "AA", "HH").readings(0), 2);
        Check.due("H thrice", told("h2d0", "abc", "HHH").readings(0), 0);
        Check.due("H thrice of three", told("h3d0", "abc-def", "HHH", "AAA").readings(0), 2);
    }

    private static void dropsAtMost() {
        String[] words = {"ABC", "ABCD", "ABCDE", "ABCDEF"};
        for (int drops = 0; drops <= 2; drops++) {
            for (int left = 0; left <= 3; left++) {
                int due = left <= drops ? 1 : 0;
                Check.due(left + " left out, DROPS " + drops, told("h1d" + drops, "abc", words[left]).readings(0), due);
                Check.due("back", told("h1d" + drops + "b", "abc", words[left]).readings(0), due);
            }
            Check.due("a sign more than LETTERS", told("h1d" + drops, "abcd", "ABC").readings(0), 0);
        }
        ClayDisc x = told("h1d1", "ab", "CDE");
        x.readings(0);
        Check.dueRow("the last LETTERS are left out, not the first", x, letters(2, 3));
    }

    private static void oneLetterStays() {
        ClayDisc x = told("h1d2", "a", "A", "BC", "DEF", "GHAB");
        Check.due("one LETTER of one, of two, of three", x.readings(0), 3);
        Check.due("A, B, D", x.letters(0, 0), 1 + 2 + 8);
        Check.due("WORDS 0, 1, 2", x.means(0, 0), 7);
    }

    private static void backFromLastToFirst() {
        ClayDisc x = told("h1d0b", "abcdef", "ABCDEF");
        x.readings(0);
        Check.dueRow("from the last to the first", x, letters(5, 4, 3, 2, 1, 0));
        x = told("h1d2b", "ab", "ABCD");
        x.readings(0);
        Check.dueRow("the WORD's last LETTERS are left out, not the signs' first", x, letters(1, 0));
    }

    private static void unseenHasAnyLetter() {
        Check.due("no HOME for ?", told("h1d0", "?a?", "AAA").readings(0), 1);
        Check.due("two ? of a GROUP are unlike", told("h1d0", "??", "AB").readings(0), 1);
        Check.due("but each needs a LETTER", told("h1d0", "a??", "AB").readings(0), 0);
    }

    private static void stepsUpTo20000() {
        ClayDisc x = manyTold(AT_20000);
        Check.due("readings", x.readings(0), 2160);
        // a A, so g G, and B C D E F are the least that are left.
        Check.dueRow("readings", x, letters(0, 1, 2, 3, 4, 5, 6));
        Check.due("STEPS", x.count(13), 20000);
        Check.due("reading", x.reading(0, 199), 0);
        Check.due("sure", x.sure(0), 0);
        Check.due("letters of a", x.letters(0, 0), 1 + 4 + 64);
        Check.due("means of ag", x.means(0, 7), 1 << 8 | 1 << 9 | 1 << 10);
        Check.due("tongues", x.tongues(), 0);
        Check.dueRow("tongues", x, 2160, -1, -1, -1);
        Check.due("lax", x.lax(0), 2160);
        Check.dueRow("lax", x, 1, 0);
        Check.due("need", x.need(0), -2);
        // b: D, E, F, H with each of the three ways for a and g: 120 each.
        Check.due("next", x.next(0), 1);
        Check.dueRow("next", x, 360);
        Check.due("blind", x.blind(0, 0), 2160);
    }

    private static void stepsPast20000AheadOfAllButNone() {
        ClayDisc x = manyTold(AT_20001);
        Check.due("no readings() yet", x.count(13), 0);
        Check.due("readings", x.readings(0), -3);
        Check.due("STEPS", x.count(13), 20001);
        Check.due("the ROW stays", x.count(11), 13);
        Twins.Telling telling = many(AT_20001);
        Twins.unchanged("reading", -3, telling, y -> y.reading(0, 0));
        Twins.unchanged("reading 199", -3, telling, y -> y.reading(0, 199));
        Twins.unchanged("sure", -3, telling, y -> y.sure(0));
        Twins.unchanged("letters", -3, telling, y -> y.letters(0, 0));
        Twins.unchanged("means", -3, telling, y -> y.means(0, 0));
        Twins.unchanged("tongues", -3, telling, y -> y.tongues());
        Twins.unchanged("lax", -3, telling, y -> y.lax(0));
        Twins.unchanged("next", -3, telling, y -> y.next(0));
        Twins.unchanged("blind", -3, telling, y -> y.blind(0, 0));
        Twins.refused("reading 200", telling, y -> y.reading(0, 200));
        Twins.refused("letters of h", telling, y -> y.letters(0, 7));
        Twins.refused("means of GROUP 9", telling, y -> y.means(0, 9));
        Twins.refused("blind of 4096", telling, y -> y.blind(0, 4096));
        Twins.refused("chance of 13", telling, y -> y.chance(0, 13));
        // No READING at all, but more STEPS than 20000 on the way to see it.
        Twins.Telling none = many(AT_20001 + "-aa-aaa");
        Twins.unchanged("none, sure", -3, none, y -> y.sure(0));
        Twins.unchanged("none, next", -3, none, y -> y.next(0));
        Twins.unchanged("none, reading", -3, none, y -> y.reading(0, 0));
        Check.due("none, just 20000 STEPS", manyTold(AT_20000 + "-aaa").sure(0), -2);
        Check.due("STEPS of one with 0 READINGS", stepsOf(manyTold(AT_20000 + "-aaa")), 20000);
        Check.due("far past 20000", stepsOf(manyTold(Check.groups("a", 3) + "-b-c-d-e-f-g-h")), 20001);
    }

    private static int stepsOf(ClayDisc x) {
        x.readings(0);
        return x.count(13);
    }

    private interface Call {
        int ask(ClayDisc x, int tongue);
    }

    private static final String[] NAMES = {"readings", "reading", "sure", "letters", "means", "lax", "need", "second", "chance",
        "next", "blind"};
    private static final Call[] CALLS = {ClayDisc::readings, (x, t) -> x.reading(t, 0), ClayDisc::sure,
        (x, t) -> x.letters(t, 0), (x, t) -> x.means(t, 0), ClayDisc::lax, ClayDisc::need, (x, t) -> Check.second(x, t, "ab"),
        (x, t) -> x.chance(t, 1), ClayDisc::next, (x, t) -> x.blind(t, 0)};

    private static void noSuchTongue() {
        for (int i = 0; i < CALLS.length; i++) {
            Call call = CALLS[i];
            for (int tongue : new int[] {-1, 4, Integer.MIN_VALUE, Integer.MAX_VALUE}) {
                Twins.refused(NAMES[i] + "(" + tongue + ")", Twins.richAnd(x -> x.end(0)), x -> call.ask(x, tongue));
            }
            for (int tongue = 0; tongue <= 3; tongue++) {
                ClayDisc x = new ClayDisc();
                Twins.rich(x);
                Check.due(NAMES[i] + "(" + tongue + ") is answered", call.ask(x, tongue) == -1, false);
            }
        }
    }

    private static void noGroups() {
        Twins.Telling telling = x -> {
            Check.words(x, 0, "A", "AB");
            x.claim();
            x.seed(9);
            x.kinds();
        };
        for (int i = 0; i < CALLS.length; i++) {
            Call call = CALLS[i];
            Twins.refused(NAMES[i] + " without GROUPS", telling, x -> call.ask(x, 0));
        }
        Twins.refused("tongues without GROUPS", telling, ClayDisc::tongues);
        ClayDisc x = new ClayDisc();
        telling.tell(x);
        Check.due("readings() that answers NONE has no STEPS", x.readings(0), -1);
        Check.due("0 ahead of any", x.count(13), 0);
        Check.disc(x, "a");
        Check.due("one GROUP", x.readings(0), 1);
        Check.due("STEPS", x.count(13), 1);
        x.readings(4);
        Check.due("STEPS stay with NONE", x.count(13), 1);
    }

    private static void readingsOfNone() {
        ClayDisc x = told("h1d0", "ab", "ABC");
        x.kinds();
        Check.due("none", x.readings(0), 0);
        Check.dueRow("none: no numbers", x);
        Check.dueNone("none: row(0)", () -> x.row(0));
        Check.due("no WORDS", x.readings(3), 0);
        Check.due("no STEPS", x.count(13), 0);
        Check.words(x, 0, "AB");
        Check.due("one", x.readings(0), 1);
        Check.dueRow("one", x, letters(0, 1));
        // The last GROUP alone can't be spelt: the others have STEPS.
        Check.disc(x, "ab-ab-abcd");
        Check.due("none behind two STEPS", x.readings(0), 0);
        Check.due("two STEPS", x.count(13), 2);
    }

    private static void readingsOfUnseenAlone() {
        ClayDisc x = told("h1d0", "?", "A", "B");
        Check.due("one READING without KINDS", x.readings(0), 1);
        Check.dueRow("twelve times NONE", x, letters());
        Check.due("one STEP", x.count(13), 1);
        Check.due("reading 0", x.reading(0, 0), 0);
        Check.due("reading 1", x.reading(0, 1), -2);
        Check.due("sure of no KIND", x.sure(0), 0);
        Check.dueRow("sure of no KIND", x, letters());
        Check.due("means both", x.means(0, 0), 3);
        Check.due("need", x.need(0), 1);
        Check.due("no KIND to ask for", x.next(0), -2);
    }

    private static final String[] UNLIKE = {"AB", "BC", "CD", "DE", "EF", "FG", "GH"};

    /** a and b have five LETTERS each, cd eight WORDS; with HOMES 3 all four alike are one too many. */
    private static ClayDisc someReadings(String eighth) {
        ClayDisc x = told("h3d0", "a-b-cd", "A", "B", "C", "D", "E");
        Check.words(x, 0, UNLIKE);
        Check.words(x, 0, eighth);
        return x;
    }

    private static void reading0To199() {
        ClayDisc x = someReadings("HA");
        Check.due("5 times 5 times 8", x.readings(0), 200);
        Check.due("reading 0", x.reading(0, 0), 0);
        Check.dueRow("reading 0", x, letters(0, 0, 0, 1));
        Check.due("reading 7", x.reading(0, 7), 0);
        Check.dueRow("reading 7", x, letters(0, 0, 7, 0));
        Check.due("reading 8", x.reading(0, 8), 0);
        Check.dueRow("reading 8", x, letters(0, 1, 0, 1));
        Check.due("reading 199", x.reading(0, 199), 0);
        Check.dueRow("reading 199", x, letters(4, 4, 7, 0));
        for (int i : new int[] {-1, 200, Integer.MIN_VALUE, Integer.MAX_VALUE}) {
            Twins.refused("reading " + i, Twins::rich, y -> y.reading(0, i));
            Check.due("reading " + i + " of 200", x.reading(0, i), -1);
        }
        Check.dueRow("the ROW stays", x, letters(4, 4, 7, 0));
        x = told("h1d0", "d-c-b-a", EIGHT);
        Check.due("of 1680 too 199 is the last", x.reading(0, 199), 0);
        Check.due("of 1680 too 200 is refused", x.reading(0, 200), -1);
    }

    private static void readingNotSoMany() {
        // AA four times is one READING that is not.
        ClayDisc x = someReadings("AA");
        Check.due("199", x.readings(0), 199);
        Check.due("reading 198", x.reading(0, 198), 0);
        Check.dueRow("reading 198", x, letters(4, 4, 6, 7));
        Check.due("reading 199", x.reading(0, 199), -2);
        Twins.unchanged("reading 2 of 2", -2, Twins::rich, y -> y.reading(0, 2));
        Twins.unchanged("reading 0 of none", -2, Twins::rich, y -> y.reading(3, 0));
        ClayDisc z = new ClayDisc();
        Twins.rich(z);
        Check.due("reading 1 of 2", z.reading(0, 1), 0);
        Check.dueRow("reading 1 of 2", z, letters(0, 2, 1));
    }

    private static void sureOfNoneOfOneOfAll() {
        Twins.unchanged("sure of none", -2, Twins::rich, x -> x.sure(3));
        ClayDisc x = told("h1d0", "abcdef", "ABCDEF");
        Check.due("one READING: all", x.sure(0), 63);
        Check.dueRow("one READING", x, letters(0, 1, 2, 3, 4, 5));
        Check.words(x, 0, "ABCDEG");
        Check.due("all but the last", x.sure(0), 31);
        Check.dueRow("all but the last", x, letters(0, 1, 2, 3, 4));
        Check.words(x, 0, "BCDEFH");
        Check.due("none of them", x.sure(0), 0);
        Check.dueRow("none of them", x, letters());
        x = told("h2d0", "al", "HH");
        Check.due("KINDS a and l", x.sure(0), 1 | 1 << 11);
        Check.dueRow("KINDS a and l", x, 7, -1, -1, -1, -1, -1, -1, -1, -1, -1, -1, 7);
    }

    private static void lettersOfKindsThatThereAre() {
        ClayDisc x = told("h1d0", "bl?", "AHA", "HAA", "BAA");
        Check.due("b", x.letters(0, 1), 1 + 2 + 128);
        Check.due("l", x.letters(0, 11), 1 + 128);
        Check.due("no READING, but a KIND", x.letters(3, 11), 0);
        for (int kind : new int[] {-1, 0, 2, 10, 12, 13, 31, 32, 33, Integer.MIN_VALUE, Integer.MAX_VALUE}) {
            Check.due("KIND " + kind, x.letters(0, kind), -1);
            Check.due("KIND " + kind + " of a TONGUE without WORDS", x.letters(3, kind), -1);
        }
        for (int kind : new int[] {-1, 3, 11, 12, Integer.MIN_VALUE}) {
            Twins.refused("KIND " + kind, Twins::rich, y -> y.letters(0, kind));
        }
        Twins.unchanged("letters have no ROW", 1, Twins::rich, y -> y.letters(0, 0));
    }

    private static void meansOfGroupsThatThereAre() {
        ClayDisc x = told("h1d0", Check.groups("a", 12), "A", "B");
        Check.due("GROUP 0", x.means(0, 0), 3);
        Check.due("GROUP 11", x.means(0, 11), 3);
        Check.due("GROUP 12", x.means(0, 12), -1);
        for (int g : new int[] {-1, 3, 12, Integer.MIN_VALUE, Integer.MAX_VALUE}) {
            Twins.refused("GROUP " + g, Twins::rich, y -> y.means(0, g));
        }
        Twins.unchanged("means have no ROW", 5, Twins::rich, y -> y.means(0, 2));
        Twins.unchanged("means without a READING", 0, Twins::rich, y -> y.means(3, 2));
    }

    private static void meansUpToTheTwentiethWord() {
        ClayDisc x = told("h1d0", "?a", "A");
        for (int i = 1; i < 20; i++) {
            Check.word(x, 0, "" + (char) ('A' + i % 8) + (char) ('A' + i / 8));
        }
        Check.due("20 WORDS", x.count(2), 20);
        Check.due("all but the first, of one LETTER", x.means(0, 0), (1 << 20) - 2);
        Check.laxness(x, "h1d1");
        Check.disc(x, "?");
        Check.due("with DROPS all", x.means(0, 0), (1 << 20) - 1);
        Check.forget(x, 0, "AB");
        Check.due("forgotten ones no more", x.means(0, 0), 1);
    }

    private static void tonguesTheFirstOfEqualOnes() {
        for (int tongue = 0; tongue <= 3; tongue++) {
            ClayDisc x = new ClayDisc();
            Check.disc(x, "a");
            for (int other = tongue; other <= 3; other++) {
                Check.words(x, other, "A", "B");
            }
            Check.due("equal ones from " + tongue, x.tongues(), tongue);
            Check.words(x, 3, "C");
            Check.due("the last has one more", x.tongues(), 3);
            Check.dueRow("the last has one more", x, tongue <= 0 ? 2 : -1, tongue <= 1 ? 2 : -1, tongue <= 2 ? 2 : -1, 3);
        }
    }

    private static void tonguesOfNone() {
        ClayDisc x = new ClayDisc();
        Check.disc(x, "abc");
        x.kinds();
        Check.due("no WORDS at all", x.tongues(), -2);
        Check.dueRow("no WORDS at all", x, -1, -1, -1, -1);
        Check.words(x, 1, "AB", "AA");
        Check.words(x, 2, "AAB");
        Check.due("none lets any", x.tongues(), -2);
        Check.dueRow("none lets any", x, -1, 0, 0, -1);
        Check.words(x, 2, "ABC");
        Check.due("one lets one", x.tongues(), 2);
        Check.dueRow("one lets one", x, -1, 0, 1, -1);
    }

    private static void tonguesPastTheSteps() {
        for (int tongue = 0; tongue <= 3; tongue++) {
            int dear = tongue;
            Twins.Telling telling = x -> {
                many(x, dear);
                Check.words(x, (dear + 1) % 4, "A", "AA");
                Check.disc(x, AT_20001);
                x.kinds();
            };
            Twins.unchanged("TONGUE " + tongue + " past the STEPS", -3, telling, ClayDisc::tongues);
            ClayDisc x = new ClayDisc();
            telling.tell(x);
            Check.disc(x, AT_20000);
            Check.due("TONGUE " + tongue + " at the STEPS", x.tongues(), tongue);
            Check.due("TONGUE " + tongue + " at the STEPS", x.row(tongue), 2160);
            Check.due("another one lets none", x.row((tongue + 1) % 4), 0);
            Check.due("no readings(), no STEPS of it", x.count(13), 0);
        }
    }

    /** Each laxness has a word that needs just it: with all of them from one on, that one is the least. */
    private static void laxInOrder() {
        String[] words = {"ABC", "AAB", "ABCD", "AAA", "AABC", "ABCDE", "AAAB", "AABCD", "AAABC"};
        int[][] due = {{1, 0}, {2, 0}, {1, 1}, {3, 0}, {2, 1}, {1, 2}, {3, 1}, {2, 2}, {3, 2}};
        for (int from = 0; from < words.length; from++) {
            ClayDisc x = told("h3d2", "abc");
            for (int i = from; i < words.length; i++) {
                Check.word(x, 0, words[i]);
            }
            Check.due(words[from] + " is the first that does", x.lax(0), 1);
            Check.dueRow(words[from], x, due[from][0], due[from][1]);
            Check.due("THE LAXNESS stays", x.count(6) * 10 + x.count(7), 32);
        }
    }

    private static void laxOfUnseenAlone() {
        ClayDisc x = told("h3d2", "?", "AB");
        Check.due("no KIND needs a HOME, but one is the least", x.lax(0), 1);
        Check.dueRow("no KIND needs a HOME, but one is the least", x, 1, 1);
        Check.words(x, 0, "A");
        Check.due("without DROPS", x.lax(0), 1);
        Check.dueRow("without DROPS", x, 1, 0);
        Check.forget(x, 0, "ABC");
        Check.due("with both DROPS", x.lax(0), 1);
        Check.dueRow("with both DROPS", x, 1, 2);
        Check.forget(x, 0, "ABCD");
        Check.due("one LETTER too many", x.lax(0), -2);
    }

    private static void laxOfNone() {
        Twins.unchanged("a TONGUE without WORDS", -2, Twins::rich, x -> x.lax(3));
        Twins.Telling four = x -> {
            Check.words(x, 0, "AAAA", "ABCDEFG", "ABC");
            Check.disc(x, "abcd");
            x.kinds();
        };
        Twins.unchanged("one KIND too many, one LETTER too few", -2, four, x -> x.lax(0));
        ClayDisc x = new ClayDisc();
        four.tell(x);
        Check.words(x, 0, "AAAB");
        Check.due("h3d0", x.lax(0), 1);
        Check.dueRow("h3d0", x, 3, 0);
        Check.forget(x, 0, "ABBBDE");
        Check.disc(x, "aabc");
        // With BACK c, b, a, a are A, B, B, B; without a would be A and B.
        Check.due("forth not", x.lax(0), -2);
        Check.laxness(x, "h1d0b");
        Check.due("back", x.lax(0), 1);
        Check.dueRow("h2d2 back", x, 2, 2);
    }

    private static void laxPastTheSteps() {
        ClayDisc x = manyTold(AT_20000);
        Check.laxness(x, "h2d0");
        Check.due("with HOMES 2 there are more STEPS", x.readings(0), -3);
        Check.due("but this is not tried", x.lax(0), 2160);
        Check.dueRow("but this is not tried", x, 1, 0);
        // At first none, as no WORD has three LETTERS; then HOMES 2 is tried.
        Twins.unchanged("none at first, past the STEPS then", -3, many(AT_20000 + "-abc"), y -> y.lax(0));
        Twins.unchanged("past the STEPS at first", -3, many(AT_20001), y -> y.lax(0));
    }

    private static void needFromOneToAll() {
        ClayDisc x = told("h1d0", "ab-ba-cb-bc", "AB", "BA", "CB");
        Check.due("three of four", x.need(0), 3);
        Check.dueRow("three of four", x, 3, 2, 1);
        Check.disc(x, "ab-ba-cb");
        Check.due("three of three", x.need(0), 3);
        Check.disc(x, "aa-ab");
        Check.due("none is at most one", x.need(0), 1);
        Check.dueRow("none", x, 0);
        Check.disc(x, "??-ab");
        Check.due("the first has one", x.need(0), 1);
        Check.dueRow("the first has one", x, 1);
        x = told("h1d0", Check.groups("a", 11) + "-aa", "A", "B", "AA");
        Check.due("the twelfth of twelve", x.need(0), 12);
        Check.dueRow("the twelfth of twelve", x, 2, 2, 2, 2, 2, 2, 2, 2, 2, 2, 2, 1);
    }

    private static void needOfMore() {
        Twins.unchanged("all of them have more", -2, Twins::rich, x -> x.need(0));
        ClayDisc x = told("h1d0", Check.groups("a", 12), "A", "B");
        Check.due("twelve have two", x.need(0), -2);
        Check.due("a TONGUE without WORDS", x.need(1), 1);
        Check.dueRow("a TONGUE without WORDS", x, 0);
    }

    private static void needPastTheSteps() {
        // 8, 39, 297 and nine times 2184: 20000.
        ClayDisc x = told("h2d0", "a-bf-c-e-?-?-?-?-?-?-?-?", EIGHT);
        Check.words(x, 0, "AH", "BC", "BE", "CC", "GB");
        Check.due("just 20000 STEPS", stepsOf(x), 20000);
        Check.due("all of them have more", x.need(0), -2);
        Twins.Telling past = y -> {
            Check.laxness(y, "h2d0");
            Check.words(y, 0, EIGHT);
            Check.words(y, 0, "BC", "EB", "FB", "FD", "GE", "GG", "GH", "HD");
            Check.disc(y, "c-f?-ed-a-?-?-?-?-?-?-?-?");
            y.kinds();
        };
        Twins.unchanged("20001 STEPS", -3, past, y -> y.need(0));
        // The first GROUP has one READING, so that the others are not tried.
        x = manyTold(AT_20001);
        Check.due("the others are not tried", x.need(0), 1);
        Check.dueRow("the others are not tried", x, 1);
    }

    private static void secondEmptiesTheText() {
        for (String text : new String[] {"ab", "a-", "", "ab-ba"}) {
            for (int tongue : new int[] {-1, 0, 3, 4}) {
                ClayDisc x = new ClayDisc();
                Twins.rich(x);
                Check.second(x, tongue, text);
                Check.due("second(" + tongue + ") of " + text + ": THE TEXT is empty", x.count(12), 0);
                x = new ClayDisc();
                Check.second(x, tongue, text);
                Check.due("without GROUPS: THE TEXT is empty", x.count(12), 0);
            }
        }
        ClayDisc x = manyTold(AT_20001);
        Check.due("past the STEPS", Check.second(x, 0, "a"), -3);
        Check.due("past the STEPS: THE TEXT is empty", x.count(12), 0);
    }

    private static void secondWithAFault() {
        String eight = Check.groups("abcdef", 8);
        String[] texts = {"", "-", "a-", "m", "abcdefg", Check.groups("a", 13), eight + "-abcde", eight + "-abc-", "a".repeat(80)};
        int[] due = {-100, -100, -102, -100, -106, -123, -160, -160, -106};
        for (int i = 0; i < texts.length; i++) {
            String text = texts[i];
            Twins.unchanged("second " + text, due[i], Twins.richAnd(x -> x.end(0)), x -> Check.second(x, 0, text));
            Check.due("NONE comes first", Check.second(new ClayDisc(), 0, text), -1);
            Check.due("ahead of the STEPS", Check.second(manyTold(AT_20001), 0, text), due[i]);
        }
        ClayDisc x = told("h1d0", Check.groups("a", 12), "A", "B");
        Check.due("twelve and twelve", Check.second(x, 0, Check.groups("b", 12)), 2);
        Check.dueRow("twelve and twelve", x, 2);
        Check.words(x, 0, "ABCDEF", "ABCD");
        Check.due("60 signs", Check.second(x, 0, eight + "-abcd"), 1);
        Check.dueRow("60 signs", x, 1);
        Check.due("THE DISC stays", x.count(0), 12);
    }

    private static void secondPastTheSteps() {
        ClayDisc x = manyTold("?a-b-c-d-e-b-f");
        // 10080 READINGS, of which those with a A, C, G and a free g stay.
        Check.due("20000 STEPS of both", Check.second(x, 0, "ag"), 2160);
        Check.dueRow("20000 STEPS of both", x, 2160);
        Twins.unchanged("20001 STEPS of both", -3, many("?-?a-b-c-d-e-b-f"), y -> Check.second(y, 0, "ag"));
        Check.due("no READING of both, no STEPS more", Check.second(manyTold(AT_20000), 0, "abc"), 0);
        Check.due("20000 STEPS, and more", Check.second(manyTold(AT_20000), 0, "a"), -3);
        x = told("h1d0", "a", "A", "B");
        Check.due("one of the two", Check.second(x, 0, "ab-?"), 0);
        Check.words(x, 0, "AB");
        Check.due("one of the two", Check.second(x, 0, "ab"), 1);
        Check.dueRow("one of the two", x, 1);
    }

    private static void chance1To12() {
        for (int n : new int[] {0, 13, -1, Integer.MIN_VALUE, Integer.MAX_VALUE}) {
            Twins.refused("chance of " + n, Twins::rich, x -> x.chance(0, n));
        }
        ClayDisc x = told("h1d0", "ab-c", "AB", "C");
        Check.due("1", x.chance(0, 1), 1);
        Check.dueRow("1", x, 1);
        Check.due("12", x.chance(0, 12), 12);
        Check.dueRow("12", x, 1, 1, 1, 1, 1, 1, 1, 1, 1, 1, 1, 1);
        Check.due("none has a READING", x.chance(1, 12), 0);
        Check.dueRow("none has a READING", x, 0, 0, 0, 0, 0, 0, 0, 0, 0, 0, 0, 0);
        // Two DRAWS for three PLACES: 25 texts have been made.
        int r = 1;
        for (int i = 0; i < 50; i++) {
            r = r * 1103515245 + 12345;
        }
        Check.due("R goes on, as an int", x.seed(1), r);
    }

    private static void chancePastTheSteps() {
        // All KINDS are unlike, so that each text has as many STEPS as THE DISC.
        ClayDisc x = told("h2d1", "ab-c-def-g-h-i", EIGHT);
        Check.words(x, 0, "HG", "AAH", "AHD", "CA", "DB", "CF", "FB");
        Check.due("just 20000 STEPS", stepsOf(x), 20000);
        Check.due("each can be read", x.chance(0, 12), 12);
        Check.due("R has gone on", x.seed(1) == 1, false);
        Twins.Telling past = y -> {
            Check.laxness(y, "h3d0");
            Check.words(y, 0, "A", "B", "C", "D", "ADB", "AA", "DB", "CCA", "BAA", "DCA");
            Check.disc(y, "ab-c-d-e-f-g-h-i-jkl");
            y.kinds();
            y.seed(-5);
        };
        for (int n : new int[] {1, 12}) {
            Twins.unchanged("20001 STEPS, chance of " + n, -3, past, y -> y.chance(0, n));
        }
        chancePastTheStepsInALaterText();
    }

    /** A disc of which some texts have too many STEPS: R stays also if the texts ahead of such a one had not. */
    private static void chancePastTheStepsInALaterText() {
        int later = 0;
        for (int seed = 1; seed <= 40; seed++) {
            int r = seed;
            ClayDisc x = manyTold(AT_20000);
            x.seed(r);
            int one = x.chance(0, 1);
            x.seed(r);
            int two = x.chance(0, 2);
            if (one != -3 && two == -3) {
                later++;
                Check.due("R stays", x.seed(1), r);
                Twins.unchanged("the second one is past the STEPS", -3, y -> {
                    many(AT_20000).tell(y);
                    y.seed(r);
                }, y -> y.chance(0, 2));
            }
        }
        Check.due("there are such seeds", later > 0, true);
    }

    private static void chanceOfOnePlace() {
        ClayDisc x = told("h1d0", "a", "A", "B");
        x.seed(Integer.MIN_VALUE);
        Check.due("nothing to change", x.chance(0, 3), 3);
        Check.dueRow("nothing to change", x, 2, 2, 2);
        Check.due("no DRAW", x.seed(1), Integer.MIN_VALUE);
        Check.disc(x, "ab");
        x.seed(-1);
        x.chance(0, 1);
        Check.due("one DRAW, the product as an int", x.seed(1), -1103515245 + 12345);
    }

    private static void nextOfNone() {
        Twins.unchanged("no READINGS", -2, Twins::rich, x -> x.next(3));
        Twins.unchanged("no KIND", -2, Twins.richAnd(x -> Check.disc(x, "??-??")), x -> x.next(0));
        ClayDisc x = told("h1d0", "?-l", "A");
        Check.due("one KIND", x.next(0), 11);
        Check.dueRow("one READING", x, 1);
    }

    private static void nextTheFirstOfEqualOnes() {
        ClayDisc x = told("h1d0", "cd", "AB", "AC", "BC");
        Check.due("c: A twice, d: C twice", x.next(0), 2);
        Check.dueRow("two are left", x, 2);
        Check.words(x, 0, "CD");
        Check.due("still two of four", x.next(0), 2);
        x = told("h1d0", "cd", "AB", "AC", "AD", "BC");
        Check.due("c: A thrice, d: C twice", x.next(0), 3);
        Check.dueRow("two are left", x, 2);
    }

    private static void blindOfKinds0To11() {
        ClayDisc x = told("h1d0", "al", "AB", "BA", "AC");
        Check.due("0: all are read", x.blind(0, 0), 3);
        Check.due("l", x.blind(0, 1 << 11), 2);
        Check.due("a", x.blind(0, 1), 3);
        Check.due("4095: none is read", x.blind(0, 4095), 1);
        Check.due("KINDS that THE DISC has not", x.blind(0, 4094 & ~(1 << 11)), 3);
        Check.due("a TONGUE without WORDS", x.blind(3, 4095), 0);
        for (int kinds : new int[] {-1, 4096, 4097, Integer.MIN_VALUE, Integer.MAX_VALUE}) {
            Twins.refused("blind of " + kinds, Twins::rich, y -> y.blind(0, kinds));
        }
        Twins.unchanged("blind has no ROW, THE DISC stays", 1, Twins::rich, y -> y.blind(0, 4095));
        Check.due("20000 STEPS", manyTold("la-b-c-d-e-b-f-ag").blind(0, 1 << 11), 2160);
        Twins.unchanged("20001 STEPS", -3, many("l-la-b-c-d-e-b-f-ag"), y -> y.blind(0, 1 << 11));
    }
}
