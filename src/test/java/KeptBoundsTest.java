import java.util.NoSuchElementException;

/** Promises 45 to 49, and what the terms say of the ROW: each sentence that names a bound, at it and just past it. */
public final class KeptBoundsTest {
    public static void main(String[] args) {
        seedOfAnyInt();
        seedOfTheLeastAndTheGreatest();
        keep0To2();
        keepOfNothingTold();
        keepOfAsMuchAsThereMayBe();
        keepIsNotChangedByWhatComesBehind();
        keepOverWhatIsKept();
        againWithTheGroupsThatWereKept();
        againOfNothingKept();
        againOfWhatIsKeptAlone();
        countOfOthers();
        countOfTheFewestAndTheMost();
        countOfSteps();
        rowOfNumbersThatThereAre();
        rowAheadOfAny();
        rowIsToldAnew();
        rowStaysWithRefusedCalls();
        rowStaysWithCallsThatTellNone();
        objectsShareNothing();
        lastOf512Calls();
        Check.over("bounds of what is kept");
    }

    private static final int[] FAR = {Integer.MIN_VALUE, Integer.MAX_VALUE};
    private static final String MOST_SIGNS = Check.groups("abcdef", 8) + "-gh?l";

    private static long number(boolean answer) {
        return answer ? 1 : 0;
    }

    private static void seedOfAnyInt() {
        ClayDisc x = new ClayDisc();
        Check.due("at first 1", x.seed(FAR[0]), 1);
        Check.due("the least", x.seed(FAR[1]), FAR[0]);
        Check.due("the greatest", x.seed(0), FAR[1]);
        Check.due("0", x.seed(-1), 0);
        Check.due("-1", x.seed(1), -1);
        Twins.unchanged("what it was already", -77, Twins::rich, y -> y.seed(-77));
    }

    /** What one text SHUFFLED from a seed must be, told by R as a long without its sign. */
    private static void shuffledFrom(int seed) {
        long r = seed & 0xFFFFFFFFL;
        int[] signs = {0, 1, 2, 3};
        for (int i = 3; i >= 1; i--) {
            r = (r * 1103515245L + 12345) & 0xFFFFFFFFL;
            int j = (int) (r / 65536 % (i + 1));
            int sign = signs[i];
            signs[i] = signs[j];
            signs[j] = sign;
        }
        ClayDisc x = new ClayDisc();
        Check.disc(x, "abb-b");
        // Of all texts with one a and three b, this word and B let the one alone that has its a where the word has its A.
        for (int place = 0; place < 4; place++) {
            x.forget(0);
            Check.words(x, 0, place == 0 ? "ABB" : place == 1 ? "BAB" : place == 2 ? "BBA" : "BBB", place == 3 ? "A" : "B");
            x.seed(seed);
            boolean there = signs[place] == 0;
            Check.due("seed " + seed + ", a at " + place, x.chance(0, 1) == 1, there);
        }
        Check.due("R behind three DRAWS", x.seed(1), (int) r);
    }

    private static void seedOfTheLeastAndTheGreatest() {
        for (int seed : new int[] {FAR[0], FAR[1], 0, 1, -1, 65535, 65536, -65536, 123456789}) {
            shuffledFrom(seed);
        }
    }

    private static void keep0To2() {
        for (int i : new int[] {-1, 3, FAR[0], FAR[1]}) {
            Twins.unchanged("keep(" + i + ")", 0, Twins::rich, x -> number(x.keep(i)));
        }
        for (int i = 0; i <= 2; i++) {
            ClayDisc x = new ClayDisc();
            Twins.rich(x);
            Check.due("keep(" + i + ")", x.keep(i), true);
            Check.disc(x, "l");
            Check.due("again(" + i + ")", x.again(i), true);
            Check.due("THE DISC", x.count(0), 3);
            // What stands under the others stays: 0 and 1 are kept by rich(), 2 is not.
            Check.due("under 0", x.again(0), true);
            Check.due("under 0: OVERS", x.count(9), i == 0 ? 3 : 2);
            Check.due("under 1", x.again(1), true);
            Check.due("under 1: GROUPS", x.count(0), i == 1 ? 3 : 2);
            Check.due("under 2", x.again(2), i == 2);
        }
    }

    private static void keepOfNothingTold() {
        ClayDisc x = new ClayDisc();
        Check.due("nothing told", x.keep(0), true);
        Check.disc(x, "ab-c");
        Check.laxness(x, "h3d2b");
        x.over(0, 1);
        x.find(0, 1);
        x.find(11, 2);
        Check.due("again", x.again(0), true);
        for (int what : new int[] {0, 1, 7, 8, 9}) {
            Check.due("nothing told: count(" + what + ")", x.count(what), 0);
        }
        Check.due("HOMES", x.count(6), 1);
        Check.due("FIND 0", x.find(0, 0), 0);
        Check.due("FIND 11", x.find(11, 0), 0);
        Check.dueNone("no PLACES", () -> x.at(0));
        Check.due("no GROUPS", x.readings(0), -1);
        Check.due("no PLACES", x.orders(), -1);
        Check.due("no KIND", x.many(), -1);
        Check.due("no PLACES", x.over(0, 1), -1);
    }

    private static void tellMost(ClayDisc x) {
        Check.disc(x, MOST_SIGNS);
        Check.laxness(x, "h3d2b");
        for (int i = 0; i < 12; i++) {
            x.over(51 - i, 50 - i);
            x.find(i, 1 + i % 2);
        }
    }

    private static void dueMost(String call, ClayDisc x) {
        Check.due(call + ": GROUPS", x.count(0), 9);
        Check.due(call + ": PLACES", x.count(1), 52);
        Check.due(call + ": HOMES", x.count(6), 3);
        Check.due(call + ": DROPS", x.count(7), 2);
        Check.due(call + ": BACK", x.count(8), 1);
        Check.due(call + ": OVERS", x.count(9), 12);
        String signs = MOST_SIGNS.replace("-", "");
        for (int p = 0; p < 52; p++) {
            Check.due(call + ": PLACE " + p, x.at(p), signs.charAt(p) == '?' ? 12 : signs.charAt(p) - 'a');
        }
        // 51 50, 50 49, .., 40 39: two of them (48 47, 42 41) are of two GROUPS.
        Check.due(call + ": way", x.way(), 1);
        Check.dueRow(call + ": way", x, 10, 0);
        Check.due(call + ": mend", x.mend(), 0);
        for (int i = 0; i < 12; i++) {
            Check.due(call + ": FIND " + i, x.find(i, 0), 1 + i % 2);
        }
    }

    private static void keepOfAsMuchAsThereMayBe() {
        for (int i = 0; i <= 2; i++) {
            ClayDisc x = new ClayDisc();
            tellMost(x);
            Check.due("keep", x.keep(i), true);
            Check.disc(x, Check.groups("l", 12));
            Check.laxness(x, "h1d0");
            x.over(0, 1);
            Check.due("again", x.again(i), true);
            dueMost("as much as there may be", x);
            Check.disc(x, "a");
            Check.due("once more", x.again(i), true);
            dueMost("once more", x);
        }
    }

    private static void keepIsNotChangedByWhatComesBehind() {
        ClayDisc x = new ClayDisc();
        Check.disc(x, "abc");
        x.over(0, 1);
        x.find(5, 1);
        x.keep(0);
        x.over(1, 2);
        x.find(5, 2);
        Check.laxness(x, "h2d1b");
        x.keep(1);
        Check.due("THE DISC stays with keep", x.count(1), 3);
        Check.due("OVERS stay with keep", x.count(9), 2);
        x.again(0);
        Check.due("OVERS of the first", x.count(9), 1);
        Check.due("LAXNESS of the first", x.count(6) * 100 + x.count(7) * 10 + x.count(8), 100);
        Check.due("FIND of the first", x.find(5, 0), 1);
        x.over(2, 0);
        x.over(2, 1);
        x.again(1);
        Check.due("OVERS of the second", x.count(9), 2);
        Check.due("the same ones", x.over(1, 2), -1);
        Check.due("none that came behind", x.over(2, 0), 3);
        Check.due("LAXNESS of the second", x.count(6) * 100 + x.count(7) * 10 + x.count(8), 211);
        Check.due("FIND of the second", x.find(5, 0), 2);
    }

    private static void keepOverWhatIsKept() {
        ClayDisc x = new ClayDisc();
        tellMost(x);
        x.keep(2);
        Check.disc(x, "k");
        Check.laxness(x, "h2d0");
        for (int find = 0; find < 12; find++) {
            x.find(find, 0);
        }
        Check.due("keep over what is kept", x.keep(2), true);
        tellMost(x);
        x.again(2);
        Check.due("GROUPS", x.count(0), 1);
        Check.due("PLACES", x.count(1), 1);
        Check.due("PLACE 0", x.at(0), 10);
        Check.dueNone("PLACE 1", () -> x.at(1));
        Check.due("OVERS", x.count(9), 0);
        Check.due("LAXNESS", x.count(6) * 100 + x.count(7) * 10 + x.count(8), 200);
        for (int find = 0; find < 12; find++) {
            Check.due("FIND " + find, x.find(find, 0), 0);
        }
    }

    /** As many PLACES as before, but in other GROUPS: what hangs on them must be as it was kept. */
    private static void againWithTheGroupsThatWereKept() {
        ClayDisc x = new ClayDisc();
        Check.disc(x, "ab-ab");
        x.over(1, 0);
        x.over(2, 1);
        x.over(2, 3);
        x.keep(1);
        Check.disc(x, "a-ba-b");
        x.over(1, 0);
        x.over(2, 1);
        x.over(2, 3);
        x.way();
        Check.dueRow("PLACES 1 and 2 are of one GROUP", x, 1, 0);
        x.keep(0);
        x.again(1);
        x.way();
        Check.dueRow("PLACES 0 and 1, 2 and 3 are", x, 1, 1);
        Check.due("both end with ab", x.rhyme(0, 2), 1);
        Check.due("both are alike", x.repeat(), 1);
        x.again(0);
        x.way();
        Check.dueRow("PLACES 1 and 2 again", x, 1, 0);
        Check.due("one alone has two signs", x.rhyme(0, 2), 0);
        Check.due("GROUPS", x.count(0), 3);
    }

    private static void againOfNothingKept() {
        for (int i : new int[] {2, -1, 3, FAR[0], FAR[1]}) {
            Twins.unchanged("again(" + i + "), 0 and 1 are kept", 0, Twins::rich, x -> number(x.again(i)));
        }
        for (int i = -1; i <= 3; i++) {
            int which = i;
            Twins.unchanged("again(" + i + ") of a new object", 0, x -> x.claim(), x -> number(x.again(which)));
            Twins.unchanged("a refused keep keeps nothing", 0, x -> x.keep(3), x -> number(x.again(which)));
        }
    }

    private static void againOfWhatIsKeptAlone() {
        ClayDisc x = new ClayDisc();
        Check.words(x, 0, "A", "B");
        Check.words(x, 3, "C");
        Check.disc(x, "a-b");
        x.claim();
        x.says(0, 0, 1);
        x.readings(0);
        x.seed(5);
        x.keep(0);
        x.forget(0);
        Check.words(x, 3, "D", "E");
        x.says(0, 0, 2);
        x.claim();
        x.readings(3);
        x.seed(6);
        x.kinds();
        Check.tell(x, "xyz");
        Check.due("again", x.again(0), true);
        Check.due("WORDS are not kept", x.count(2), 0);
        Check.due("WORDS are not kept", x.count(5), 3);
        Check.due("CLAIMS are not kept", x.count(10), 2);
        Check.due("what they say is not kept", x.says(0, 0, 2), 2);
        Check.due("R is not kept", x.seed(1), 6);
        Check.dueRow("the ROW is not kept", x, 1, 1, 0, 0, 0, 0, 0, 0, 0, 0, 0, 0, 0);
        Check.due("THE TEXT is not kept", x.count(12), 3);
        // C, D, E for a, then two of them for b.
        Check.due("STEPS are not kept", x.count(13), 9);
    }

    private static void countOfOthers() {
        for (int what : new int[] {-1, 14, 15, FAR[0], FAR[1]}) {
            Twins.refused("count(" + what + ")", Twins::rich, x -> x.count(what));
            Check.due("count(" + what + ") of a new object", new ClayDisc().count(what), -1);
        }
    }

    private static void countOfTheFewestAndTheMost() {
        ClayDisc x = new ClayDisc();
        for (int what = 0; what <= 13; what++) {
            Check.due("a new object: count(" + what + ")", x.count(what), what == 6 ? 1 : 0);
        }
        Check.disc(x, Check.groups("a", 12));
        Check.due("12 GROUPS", x.count(0), 12);
        Check.due("12 PLACES", x.count(1), 12);
        for (int what = 2; what <= 5; what++) {
            for (int i = 0; i < 20; i++) {
                Check.due("WORDS", x.count(what), i);
                x.sign(0x41410000 + (i / 8 << 16) + (0x4100 + (i % 8 << 8)));
                x.end(3);
                x.word(what - 2);
            }
            Check.due("20 WORDS", x.count(what), 20);
        }
        ClayDisc y = new ClayDisc();
        tellMost(y);
        dueMost("most", y);
        y.sign(0x61626364);
        for (int i = 1; i < 20; i++) {
            Check.due("signs", y.count(12), 4 * i);
            y.sign(0x61626364);
        }
        Check.due("80 signs", y.count(12), 80);
        y.end(79);
        Check.due("79 signs", y.count(12), 79);
    }

    /** Ways for a, b, .. of eight letters: 8, 56, 336, 1680, 6720; then d is known: 6720 more for each d. */
    private static void countOfSteps() {
        ClayDisc x = new ClayDisc();
        Check.words(x, 0, "A", "B", "C", "D", "E", "F", "G", "H");
        Check.due("ahead of any", x.count(13), 0);
        x.readings(0);
        Check.due("NONE, no GROUPS", x.count(13), 0);
        Check.disc(x, "a-b-c-d-e");
        x.sure(0);
        x.tongues();
        x.lax(0);
        Check.due("other calls have no STEPS of readings()", x.count(13), 0);
        Check.due("readings", x.readings(0), 6720);
        Check.due("STEPS", x.count(13), 8 + 56 + 336 + 1680 + 6720);
        x.readings(4);
        x.readings(-1);
        Check.due("NONE leaves them", x.count(13), 8800);
        x.sure(0);
        x.next(0);
        x.need(0);
        Check.second(x, 0, "a");
        x.chance(0, 2);
        x.blind(0, 1);
        Check.due("other calls leave them", x.count(13), 8800);
        Check.disc(x, "a-b-c-d-e-d");
        Check.due("a new DISC leaves them", x.count(13), 8800);
        Check.due("readings", x.readings(0), 6720);
        Check.due("STEPS", x.count(13), 15520);
        Check.disc(x, "a-b-c-d-e-d-d");
        Check.due("past 20000", x.readings(0), -3);
        Check.due("20001, however many", x.count(13), 20001);
        x.readings(1);
        Check.due("a TONGUE without WORDS: 0", x.count(13), 0);
        x.readings(0);
        x.again(0);
        x.keep(0);
        Check.due("20001 again", x.count(13), 20001);
    }

    private static long thrown(ClayDisc x, int i) {
        try {
            return x.row(i);
        } catch (NoSuchElementException e) {
            return 77;
        }
    }

    private static void rowOfNumbersThatThereAre() {
        for (int i : new int[] {-1, 13, 14, FAR[0], FAR[1]}) {
            Twins.unchanged("row(" + i + ") of 13", 77, Twins::rich, x -> thrown(x, i));
        }
        Twins.unchanged("row(0) of 13", 2, Twins.richAnd(x -> {
            Check.disc(x, "aa?");
            x.kinds();
        }), x -> thrown(x, 0));
        Twins.unchanged("row(12) of 13", 1, Twins.richAnd(x -> {
            Check.disc(x, "aa?");
            x.kinds();
        }), x -> thrown(x, 12));
        ClayDisc x = new ClayDisc();
        x.way();
        Check.dueNone("row(2) of 2", () -> x.row(2));
        x.mend();
        Check.due("row(0) of 1", x.row(0), 0);
        Check.dueNone("row(1) of 1, which had a number", () -> x.row(1));
        Check.disc(x, "a");
        x.readings(0);
        Check.dueNone("row(0) of none, which had a number", () -> x.row(0));
    }

    private static void rowAheadOfAny() {
        ClayDisc x = new ClayDisc();
        for (int i : new int[] {0, 1, 12, -1, FAR[0], FAR[1]}) {
            Check.dueNone("no ROW yet: row(" + i + ")", () -> x.row(i));
        }
        Check.due("no numbers", x.count(11), 0);
    }

    private interface Call {
        long ask(ClayDisc x);
    }

    private static void dueNumbers(String call, Call asked, int due) {
        ClayDisc x = new ClayDisc();
        Twins.rich(x);
        // The ROW ahead has another number of numbers than the one that is due.
        if (due == 13) {
            x.way();
        }
        asked.ask(x);
        Check.due(call + ": numbers of the ROW", x.count(11), due);
    }

    private static void rowIsToldAnew() {
        dueNumbers("readings", x -> x.readings(0), 12);
        dueNumbers("readings of none", x -> x.readings(3), 0);
        dueNumbers("reading", x -> x.reading(0, 1), 12);
        dueNumbers("sure", x -> x.sure(0), 12);
        dueNumbers("tongues", x -> x.tongues(), 4);
        dueNumbers("lax", x -> x.lax(0), 2);
        dueNumbers("need", x -> x.need(1), 1);
        dueNumbers("second", x -> Check.second(x, 0, "ab"), 1);
        dueNumbers("chance", x -> x.chance(0, 12), 12);
        dueNumbers("next", x -> x.next(0), 1);
        dueNumbers("orders", x -> x.orders(), 1);
        dueNumbers("ahead", x -> x.ahead(0, 1), 2);
        dueNumbers("way", x -> x.way(), 2);
        dueNumbers("lot", x -> x.lot(), 2);
        dueNumbers("mend", x -> x.mend(), 1);
        dueNumbers("kinds", x -> x.kinds(), 13);
        dueNumbers("like", x -> x.like(), 2);
        dueNumbers("repeat", x -> x.repeat(), 1);
        dueNumbers("rhyme", x -> x.rhyme(0, 1), 1);
        dueNumbers("axe", x -> x.axe(2, 1, 1, 1), 2);
        dueNumbers("risks", x -> x.risks(0), 1);
        dueNumbers("seek", x -> x.seek(), 1);
        dueNumbers("part", x -> partOfTwo(x), 1);
    }

    private static int partOfTwo(ClayDisc x) {
        for (int claim = 0; claim < 3; claim++) {
            x.says(claim, 6, 1 + claim % 2);
            x.says(claim, 7, 1 + claim / 2);
        }
        return x.part();
    }

    private static void rowStaysWithRefusedCalls() {
        Call[] refused = {x -> x.readings(4), x -> x.reading(0, 200), x -> x.sure(-1), x -> x.letters(0, 12), x -> x.means(0, 3),
            x -> x.lax(4), x -> x.need(4), x -> x.chance(0, 13), x -> x.next(4), x -> x.blind(0, 4096), x -> x.over(0, 0),
            x -> x.ahead(0, 0), x -> x.ends(2), x -> x.script(0, 1), x -> x.rhyme(0, 4), x -> x.axe(46, 1, 1, 1),
            x -> x.says(3, 0, 0), x -> x.sheet(3, 0, 0, 0, 0), x -> x.find(12, 0), x -> x.risks(3), x -> x.forget(4)};
        for (int i = 0; i < refused.length; i++) {
            Call call = refused[i];
            Twins.refused("refused call " + i, Twins::rich, x -> call.ask(x));
        }
    }

    private static void rowStaysWithCallsThatTellNone() {
        ClayDisc x = new ClayDisc();
        Twins.rich(x);
        x.axe(45, 1, 1, 1);
        x.sign(0);
        x.end(0);
        x.disc();
        x.laxness();
        Check.disc(x, "ab-c");
        Check.word(x, 2, "A");
        Check.laxness(x, "h2d2");
        x.forget(1);
        x.at(0);
        x.letters(0, 0);
        x.means(0, 0);
        x.blind(0, 1);
        x.over(1, 0);
        x.ends(0);
        x.many();
        x.script(5, 6);
        x.claim();
        x.says(0, 0, 1);
        x.sheet(0, 0, 3, 1, 1);
        x.find(0, 1);
        x.stand();
        x.idle();
        x.plan();
        x.seed(4);
        x.keep(0);
        x.again(1);
        x.count(0);
        x.row(0);
        Check.dueRow("calls that tell no ROW leave it", x, 1, 45);
    }

    private static void objectsShareNothing() {
        ClayDisc x = new ClayDisc();
        Twins.rich(x);
        ClayDisc y = new ClayDisc();
        for (int what = 0; what <= 13; what++) {
            Check.due("another object: count(" + what + ")", y.count(what), what == 6 ? 1 : 0);
        }
        Check.due("another object: R", y.seed(3), 1);
        Check.due("another object: nothing kept", y.again(0), false);
        Check.due("another object: no FIND is known", y.find(11, 0), 0);
        Check.due("the first one: R", x.seed(3), -77);
        Check.due("the first one: a FIND", x.find(11, 0), 2);
        Check.due("the first one: the ROW", x.count(11), 13);
    }

    private static void lastOf512Calls() {
        ClayDisc x = new ClayDisc();
        x.sign(0x61622D61);
        x.disc();
        for (int call = 3; call <= 510; call++) {
            if (call % 2 == 1) {
                x.kinds();
            } else {
                x.chance(0, 12);
            }
        }
        Check.due("call 511", x.kinds(), 2);
        Check.due("call 512", x.row(0), 2);
    }
}
