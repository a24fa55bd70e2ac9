/** Promises 9 to 20: readings. */
public final class ReadingsTest {
    public static void main(String[] args) {
        refusals();
        counts();
        inOrder();
        laxnesses();
        sureAndLetters();
        meanings();
        tongues();
        leastLaxness();
        needs();
        seconds();
        chances();
        nexts();
        blinds();
        limitOfSteps();
        tooManySteps();
        Check.over("readings");
    }

    private static final long[] NO_LETTERS = {-1, -1, -1, -1, -1, -1, -1, -1, -1, -1, -1, -1};

    private static long[] letters(long... some) {
        long[] all = NO_LETTERS.clone();
        System.arraycopy(some, 0, all, 0, some.length);
        return all;
    }

    private static ClayDisc told(String laxness, String disc, String... words) {
        ClayDisc x = new ClayDisc();
        Check.laxness(x, laxness);
        Check.words(x, 0, words);
        Check.disc(x, disc);
        return x;
    }

    private static void refusals() {
        ClayDisc x = new ClayDisc();
        Check.words(x, 0, "A");
        refused(x, 0, "no groups");
        Check.due("tongues without groups", x.tongues(), -1);
        Check.disc(x, "a");
        x.kinds();
        for (int tongue : new int[] {-1, 4, Integer.MAX_VALUE, Integer.MIN_VALUE}) {
            refused(x, tongue, "tongue " + tongue);
        }
        Check.due("no readings() yet that counts", x.count(13), 0);
        Check.due("the ROW stays", x.count(11), 13);
        Check.due("reading -1", x.reading(0, -1), -1);
        Check.due("reading 200", x.reading(0, 200), -1);
        Check.due("reading 199", x.reading(0, 199), -2);
        Check.due("kind -1", x.letters(0, -1), -1);
        Check.due("kind b", x.letters(0, 1), -1);
        Check.due("kind 12", x.letters(0, 12), -1);
        Check.due("kind 32", x.letters(0, 32), -1);
        Check.due("group -1", x.means(0, -1), -1);
        Check.due("group 1", x.means(0, 1), -1);
        Check.due("0 texts", x.chance(0, 0), -1);
        Check.due("13 texts", x.chance(0, 13), -1);
        Check.due("R stays", x.seed(1), 1);
        Check.due("kinds 4096", x.blind(0, 4096), -1);
        Check.due("kinds -1", x.blind(0, -1), -1);
        Check.due("the ROW still stays", x.count(11), 13);
        Check.disc(x, "?");
        Check.due("? is no kind to ask of", x.letters(0, 12), -1);
        Check.due("a is not there", x.letters(0, 0), -1);
    }

    private static void refused(ClayDisc x, int tongue, String why) {
        Check.due(why + ": readings", x.readings(tongue), -1);
        Check.due(why + ": reading", x.reading(tongue, 0), -1);
        Check.due(why + ": sure", x.sure(tongue), -1);
        Check.due(why + ": letters", x.letters(tongue, 0), -1);
        Check.due(why + ": means", x.means(tongue, 0), -1);
        Check.due(why + ": lax", x.lax(tongue), -1);
        Check.due(why + ": need", x.need(tongue), -1);
        Check.due(why + ": second", Check.second(x, tongue, "a"), -1);
        Check.due(why + ": second with a fault", Check.second(x, tongue, "-"), -1);
        Check.due(why + ": second takes the text", x.count(12), 0);
        Check.due(why + ": chance", x.chance(tongue, 1), -1);
        Check.due(why + ": next", x.next(tongue), -1);
        Check.due(why + ": blind", x.blind(tongue, 0), -1);
    }

    private static void counts() {
        ClayDisc x = told("h1d0", "ab-ba-ac", "AB", "BA", "AC", "CA");
        Check.due("readings", x.readings(0), 2);
        Check.dueRow("readings", x, letters(0, 1, 2));
        Check.due("steps 4 + 4 + 2", x.count(13), 10);
        x.sure(0);
        x.need(0);
        Check.due("steps of readings() alone", x.count(13), 10);
        Check.due("readings(4) is refused", x.readings(4), -1);
        Check.due("steps stay", x.count(13), 10);
        Check.due("a tongue without words", x.readings(1), 0);
        Check.dueRow("no reading, no numbers", x);
        Check.due("no steps", x.count(13), 0);
        // Unlike words that give the kinds the same letters are one way.
        x = told("h1d0", "a?-?a", "AB", "AC", "DA");
        Check.due("one way by two words", x.readings(0), 1);
        Check.dueRow("a is A", x, letters(0));
        Check.due("steps: a is A or D, then A", x.count(13), 3);
        x = told("h1d0", "?-??", "A", "AB", "CD");
        Check.due("nothing to be read, one reading", x.readings(0), 1);
        Check.dueRow("no kinds", x, NO_LETTERS);
        Check.due("a step for each group", x.count(13), 2);
        x = told("h1d0", "aba", "ABA", "AAB", "BAB", "ABC", "ABAB");
        Check.due("a kind twice in a group", x.readings(0), 2);
        Check.due("two steps", x.count(13), 2);
        x = told("h1d0", "l-a", "H", "A", "B");
        Check.due("kinds a and l", x.readings(0), 6);
        Check.dueRow("a before l", x, 0, -1, -1, -1, -1, -1, -1, -1, -1, -1, -1, 1);
    }

    private static void inOrder() {
        // Words told so that they come in another order than their letters.
        ClayDisc x = told("h1d0", "b-a", "C", "A", "B");
        int[][] due = {{0, 1}, {0, 2}, {1, 0}, {1, 2}, {2, 0}, {2, 1}};
        for (int i = 0; i < due.length; i++) {
            Check.due("reading " + i, x.reading(0, i), 0);
            Check.dueRow("reading " + i, x, letters(due[i][0], due[i][1]));
        }
        Check.due("reading 6", x.reading(0, 6), -2);
        Check.dueRow("reading 6: the ROW stays", x, letters(2, 1));
        x = told("h1d0", "d-c-b-a", "H", "G", "F", "E", "D", "C", "B", "A");
        Check.due("8 times 7 times 6 times 5", x.readings(0), 1680);
        Check.dueRow("the first", x, letters(0, 1, 2, 3));
        Check.due("the last that can be asked for", x.reading(0, 199), 0);
        // 30 for each pair (a, b): 199 is number 19 of the pairs' seventh, a A and b H, in which c has 5 each.
        Check.dueRow("the last that can be asked for", x, letters(0, 7, 4, 6));
    }

    private static void laxnesses() {
        Check.due("h1: unlike letters", told("h1d0", "ab", "AA").readings(0), 0);
        Check.due("h2: the same letter", told("h2d0", "ab", "AA").readings(0), 1);
        Check.due("h2 of three kinds", told("h2d0", "a-b-c", "A").readings(0), 0);
        Check.due("h3 of three kinds", told("h3d0", "a-b-c", "A").readings(0), 1);
        Check.due("h3 of four kinds", told("h3d0", "a-b-c-d", "A").readings(0), 0);
        Check.due("h2 of three kinds in a group", told("h2d0", "abc", "AAA").readings(0), 0);
        Check.due("? has no home", told("h1d0", "?a", "AA").readings(0), 1);
        Check.due("d0", told("h1d0", "a", "ABC").readings(0), 0);
        Check.due("d1", told("h1d1", "a", "ABC").readings(0), 0);
        Check.due("d2", told("h1d2", "a", "ABC").readings(0), 1);
        Check.due("d1 in a group of two", told("h1d1", "ab", "ABC").readings(0), 1);
        Check.due("no letter more than the word", told("h1d2", "ab", "A").readings(0), 0);
        ClayDisc x = told("h1d1b", "ab", "ABC");
        Check.due("back", x.readings(0), 1);
        Check.dueRow("back, the last letter left out", x, letters(1, 0));
        x = told("h1d0b", "abc-c", "ABC", "A", "C");
        Check.due("back alone, not forth too", x.readings(0), 1);
        Check.dueRow("back alone", x, letters(2, 1, 0));
    }

    private static void sureAndLetters() {
        ClayDisc x = told("h1d0", "ab-ba-ac", "AB", "BA", "AC", "CA");
        Check.due("sure", x.sure(0), 1);
        Check.dueRow("sure", x, letters(0));
        Check.due("letters of a", x.letters(0, 0), 1);
        Check.due("letters of b", x.letters(0, 1), 6);
        Check.due("letters of c", x.letters(0, 2), 6);
        Check.due("sure, no reading", x.sure(3), -2);
        Check.dueRow("the ROW stays", x, letters(0));
        Check.due("letters, no reading", x.letters(3, 0), 0);
        x = told("h1d0", "ab", "AB", "CB");
        x.way();
        Check.due("sure of b", x.sure(0), 2);
        Check.dueRow("sure of b", x, letters(-1, 1));
        x = told("h2d0", "h-a", "H");
        Check.due("sure of all", x.sure(0), 129);
        Check.dueRow("sure of all", x, letters(7, -1, -1, -1, -1, -1, -1, 7));
        Check.due("letter H", x.letters(0, 7), 128);
    }

    private static void meanings() {
        ClayDisc x = told("h1d0", "ab-ba-ac", "AB", "BA", "AC", "CA");
        Check.due("means 0", x.means(0, 0), 5);
        Check.due("means 1", x.means(0, 1), 10);
        Check.due("means 2", x.means(0, 2), 5);
        Check.due("means, no reading", x.means(1, 0), 0);
        x = told("h1d1", "a?-b", "AB", "ACD", "BA", "AEFG", "B");
        // a A: AB, ACD; a B: BA. b alone: a word of one or two letters.
        Check.due("drops and ? as told", x.means(0, 0), 7);
        Check.due("b is not what a is", x.means(0, 1), 21);
    }

    private static void tongues() {
        ClayDisc x = told("h1d0", "ab", "AB");
        Check.words(x, 2, "AB", "BA");
        Check.words(x, 3, "CD", "DC", "A");
        Check.due("the first of equal ones", x.tongues(), 2);
        Check.dueRow("tongues", x, 1, -1, 2, 2);
        Check.disc(x, "ab-cd");
        Check.words(x, 0, "CD");
        Check.due("of some that let none", x.tongues(), 0);
        Check.dueRow("of some that let none", x, 2, -1, 0, 0);
        Check.forget(x, 0, "ABC");
        Check.disc(x, "abc");
        Check.due("one of one", x.tongues(), 0);
        Check.dueRow("one of one", x, 1, -1, 0, 0);
        Check.disc(x, "abcdef");
        Check.due("none lets any", x.tongues(), -2);
        Check.dueRow("none lets any: the ROW is told", x, 0, -1, 0, 0);
        for (int tongue = 0; tongue < 4; tongue++) {
            x.forget(tongue);
        }
        x.kinds();
        Check.due("no words", x.tongues(), -2);
        Check.dueRow("no words", x, -1, -1, -1, -1);
        Check.words(x, 3, "A");
        Check.due("words of the last one alone", x.tongues(), -2);
        Check.dueRow("words of the last one alone", x, -1, -1, -1, 0);
        x = new ClayDisc();
        x.kinds();
        Check.due("no groups", x.tongues(), -1);
        Check.due("no groups: the ROW stays", x.count(11), 13);
    }

    private static void leastLaxness() {
        ClayDisc x = told("h3d2", "ab", "AB", "AAB");
        Check.due("h1d0 does", x.lax(0), 1);
        Check.dueRow("h1d0", x, 1, 0);
        x = told("h1d0", "ab", "AAB");
        // h1d1 and h2d0 come ahead of h2d1: neither does.
        Check.due("h2d1", x.lax(0), 1);
        Check.dueRow("h2d1", x, 2, 1);
        x = told("h1d0", "ab", "ABC", "AA");
        Check.due("of h2d0 and h1d1 the fewer drops", x.lax(0), 1);
        Check.dueRow("h2d0", x, 2, 0);
        x = told("h1d0", "abc", "AAAB", "ABCDE");
        Check.due("h1d2 ahead of h3d1", x.lax(0), 1);
        Check.dueRow("h1d2", x, 1, 2);
        x = told("h1d0", "abc", "AAABC");
        Check.due("h3d2", x.lax(0), 1);
        Check.dueRow("h3d2", x, 3, 2);
        Check.due("the laxness stays", x.count(6) * 10 + x.count(7), 10);
        x = told("h1d0", "abcd", "AAAA");
        x.kinds();
        Check.due("none", x.lax(0), -2);
        Check.due("the ROW stays", x.count(11), 13);
        x = told("h1d0b", "aab", "BAA");
        Check.due("back as it is", x.lax(0), 1);
        Check.dueRow("back as it is", x, 1, 0);
        Check.laxness(x, "h1d0");
        Check.due("forth as it is", x.lax(0), -2);
    }

    private static void needs() {
        ClayDisc x = told("h1d0", "ab-ba-cb-bc", "AB", "BA", "CB");
        // ab: 3 ways; ba: 2; cb: a A, b B, c C alone (a B, b A: none ends in A but BA).
        Check.due("need", x.need(0), 3);
        Check.dueRow("need", x, 3, 2, 1);
        Check.disc(x, "ab-ba-cb");
        Check.due("need all of them", x.need(0), 3);
        Check.disc(x, "ab-ba");
        Check.due("all of them have more", x.need(0), -2);
        Check.dueRow("the ROW stays", x, 3, 2, 1);
        Check.due("none is at most one", x.need(1), 1);
        Check.dueRow("none", x, 0);
    }

    private static void seconds() {
        ClayDisc x = told("h1d0", "ab-ba", "AB", "BA", "AC", "CA");
        Check.due("readings", x.readings(0), 4);
        Check.due("c tells a", Check.second(x, 0, "ac"), 2);
        // a A: b B, c C and b C, c B; a B or C: c would be A as b is.
        Check.dueRow("both together", x, 2);
        Check.due("a new kind beside", Check.second(x, 0, "?c"), 4);
        // Each of the four leaves c the one letter of A, B, C that is left, and each of these ends a word.
        Check.dueRow("each in one way", x, 4);
        Check.due("none together", Check.second(x, 0, "aa"), 0);
        Check.dueRow("none together", x, 0);
        Check.due("a fault", Check.second(x, 0, "a--b"), -102);
        Check.due("empty", Check.second(x, 0, ""), -100);
        Check.due("its end", Check.second(x, 0, "a-"), -102);
        Check.dueRow("the ROW stays", x, 0);
        Check.due("the disc stays", x.count(0), 2);
        Check.laxness(x, "h2d0");
        x = told("h1d0", "a", "A", "B", "C");
        Check.due("more of both than of one", Check.second(x, 0, "b"), 3);
        Check.dueRow("3 times 2", x, 6);
        x = told("h1d0", "a-a-a-a-a-a-a-a-a-a-a-a", "A");
        Check.due("24 groups", Check.second(x, 0, "a-a-a-a-a-a-a-a-a-a-a-a"), 1);
        String six = "abcdef-abcdef-abcdef-abcdef-abcdef-abcdef-abcdef-abcdef-abc-";
        Check.due("60", Check.second(x, 0, six + "d"), -160);
    }

    private static void chances() {
        ClayDisc x = told("h1d0", "ab-c", "AB", "C");
        // Whatever the shuffle, three unlike signs are read: each text has one reading.
        Check.due("all alike", x.chance(0, 12), 12);
        Check.dueRow("all alike", x, 1, 1, 1, 1, 1, 1, 1, 1, 1, 1, 1, 1);
        x = told("h1d0", "ab-a", "AB", "A");
        x.seed(1);
        int r = 1;
        long[] due = new long[4];
        int readable = 0;
        for (int i = 0; i < 4; i++) {
            char[] s = {'a', 'b', 'a'};
            for (int p = 2; p >= 1; p--) {
                r = r * 1103515245 + 12345;
                int j = (r >>> 16) % (p + 1);
                char c = s[p];
                s[p] = s[j];
                s[j] = c;
            }
            // Only ab-a goes: in ba-a the last sign is B, in aa-b the first two are alike.
            due[i] = s[0] == 'a' && s[1] == 'b' ? 1 : 0;
            readable += (int) due[i];
        }
        Check.due("each anew from the disc", x.chance(0, 4), readable);
        Check.dueRow("each anew from the disc", x, due);
        Check.due("R goes on", x.seed(1), r);
        Check.due("the disc stays", x.at(1), 1);
        Check.due("one text", x.chance(0, 1), readable > 0 && due[0] > 0 ? 1 : 0);
        Check.due("one text", x.count(11), 1);
        x.seed(-5);
        Check.due("one place, no draw", Check.disc(x, "a"), 1);
        x.chance(0, 3);
        Check.due("R stays", x.seed(1), -5);
    }

    private static void nexts() {
        ClayDisc x = told("h1d0", "ab-ba-ac", "AB", "BA", "AC", "CA");
        Check.due("b parts both", x.next(0), 1);
        Check.dueRow("one is left", x, 1);
        Check.due("no reading", x.next(1), -2);
        Check.dueRow("the ROW stays", x, 1);
        Check.disc(x, "??");
        Check.due("no kind", x.next(0), -2);
        Check.disc(x, "ab");
        Check.forget(x, 0, "AB", "BC", "CC", "DB");
        // a: one each; b: B twice (cc is no way with one home).
        Check.due("a parts all", x.next(0), 0);
        Check.dueRow("a parts all", x, 1);
        x = told("h1d0", "cd", "AB", "AC", "BC");
        // c: A twice; d: C twice: the first of equal ones.
        Check.due("the first of equal ones", x.next(0), 2);
        Check.dueRow("two are left", x, 2);
    }

    private static void blinds() {
        ClayDisc x = told("h1d0", "ab-ba-ac", "AB", "BA", "AC", "CA");
        Check.due("none hidden", x.blind(0, 0), 2);
        Check.due("c hidden", x.blind(0, 4), 4);
        Check.due("b hidden", x.blind(0, 2), 4);
        Check.due("all hidden", x.blind(0, 4095), 1);
        Check.due("one that it has not", x.blind(0, 2048), 2);
        Check.due("the disc stays", x.readings(0), 2);
        Check.due("no words", x.blind(1, 4095), 0);
    }

    private static final String[] EIGHT = {"A", "B", "C", "D", "E", "F", "G", "H"};

    private static void limitOfSteps() {
        ClayDisc x = told("h2d0", "a-bf-c-e-?-?-?-?-?-?-?-?", EIGHT);
        Check.words(x, 0, "AH", "BC", "BE", "CC", "GB");
        Check.due("just 20000 steps", x.readings(0), 2184);
        Check.due("just 20000 steps", x.count(13), 20000);
        x = told("h2d0", "c-f?-ed-a-?-?-?-?-?-?-?-?", EIGHT);
        Check.words(x, 0, "BC", "EB", "FB", "FD", "GE", "GG", "GH", "HD");
        x.kinds();
        Check.due("20001 steps", x.readings(0), -3);
        Check.due("20001 steps", x.count(13), 20001);
        Check.due("the ROW stays", x.count(11), 13);
        Check.due("a group fewer", Check.disc(x, "c-f?-ed-a-?-?-?-?-?-?-?"), 11);
        Check.due("a group fewer", x.readings(0), 2184);
        Check.due("a group fewer", x.count(13), 20001 - 2184);
    }

    private static void tooManySteps() {
        // 8, 56, 336, 1680, 6720 for five kinds: 8800 steps; a sixth kind makes 20160 more.
        ClayDisc x = told("h1d0", "a-b-c-d-e-f-a", EIGHT);
        x.kinds();
        Check.due("readings", x.readings(0), -3);
        Check.due("reading", x.reading(0, 199), -3);
        Check.due("reading 200 is refused", x.reading(0, 200), -1);
        Check.due("sure", x.sure(0), -3);
        Check.due("letters", x.letters(0, 0), -3);
        Check.due("letters of none", x.letters(0, 6), -1);
        Check.due("means", x.means(0, 0), -3);
        Check.due("tongues", x.tongues(), -3);
        Check.due("lax", x.lax(0), -3);
        Check.due("need", x.need(0), -3);
        Check.due("second", Check.second(x, 0, "a"), -3);
        Check.due("second with a fault", Check.second(x, 0, "a-"), -102);
        x.seed(77);
        Check.due("chance", x.chance(0, 2), -3);
        Check.due("R stays", x.seed(1), 77);
        Check.due("next", x.next(0), -3);
        Check.due("blind", x.blind(0, 0), -3);
        Check.due("blind of two", x.blind(0, 48), 1680);
        Check.due("the ROW stays", x.count(11), 13);
        Check.words(x, 1, "AB");
        Check.due("another tongue does not", x.readings(1), 0);
        Check.due("none, but of too many steps", Check.disc(x, "a-b-c-d-e-f-gg"), 7);
        Check.due("ahead of none", x.sure(0), -3);
        // The groups that part all come last, but are not come to.
        Check.disc(x, "aa-b-c-d-e-f-g");
        Check.due("no way to go on, no steps", x.readings(0), 0);
        Check.disc(x, "a-b-c-d-e");
        Check.due("five kinds", x.readings(0), 6720);
        Check.due("five kinds", x.count(13), 8800);
        Check.due("second of both", Check.second(x, 0, "f"), -3);
        Check.disc(x, "a-?-b-c-d-e-f");
        Check.words(x, 2, "AB", "A");
        Check.due("need stops ahead of the steps", x.need(2), 1);
        Check.dueRow("need stops", x, 1);
    }
}
