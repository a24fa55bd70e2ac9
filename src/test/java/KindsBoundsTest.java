/** Promises 28 to 34: each sentence that names a bound, at it and just past it. */
public final class KindsBoundsTest {
    public static void main(String[] args) {
        kindsOfNoneAndOfAll();
        manyOfNoKind();
        manyOfOneKind();
        manyUpTo200();
        manyOfEqualOnesTheLeast();
        script1To200();
        scriptOfFewerThanWereSeen();
        scriptAlike();
        likeOfTwoPlaces();
        likeAsAFraction();
        repeatOfNoGroups();
        repeatOfPairsAsLong();
        repeatIsCut();
        rhyme1To3();
        rhymeOfGroupsAsLongAtLeast();
        rhymeWithoutUnseen();
        axe1To45();
        axeOfOthers();
        axeOfNoneAndOfAll();
        Check.over("bounds of kinds");
    }

    private static final int[] FAR = {Integer.MIN_VALUE, Integer.MAX_VALUE};

    private static ClayDisc disc(String text) {
        ClayDisc x = new ClayDisc();
        Check.disc(x, text);
        return x;
    }

    private static Twins.Telling rich(String disc) {
        return Twins.richAnd(x -> {
            Check.disc(x, disc);
            x.kinds();
        });
    }

    private static void empty(ClayDisc x) {
        x.claim();
        x.kinds();
    }

    private static void kindsOfNoneAndOfAll() {
        ClayDisc x = new ClayDisc();
        Check.due("no DISC", x.kinds(), 0);
        Check.dueRow("no DISC", x, 0, 0, 0, 0, 0, 0, 0, 0, 0, 0, 0, 0, 0);
        Check.disc(x, "?-??");
        Check.due("? is no KIND", x.kinds(), 0);
        Check.dueRow("? comes last", x, 0, 0, 0, 0, 0, 0, 0, 0, 0, 0, 0, 0, 3);
        Check.disc(x, "abcdef-ghijkl-?");
        Check.due("all KINDS", x.kinds(), 12);
        Check.dueRow("all KINDS", x, 1, 1, 1, 1, 1, 1, 1, 1, 1, 1, 1, 1, 1);
        Check.disc(x, Check.groups("llllll", 8) + "-llll");
        Check.due("one KIND 52 times", x.kinds(), 1);
        Check.dueRow("one KIND 52 times", x, 0, 0, 0, 0, 0, 0, 0, 0, 0, 0, 0, 52, 0);
    }

    private static void manyOfNoKind() {
        Twins.refused("no DISC", KindsBoundsTest::empty, ClayDisc::many);
        Twins.refused("? alone", rich("??-?"), ClayDisc::many);
        Twins.unchanged("one KIND: many has no ROW", 1, rich("??-a"), ClayDisc::many);
    }

    private static void manyOfOneKind() {
        Check.due("once", disc("a").many(), 1);
        Check.due("twice", disc("aa").many(), 1);
        Check.due("52 times", disc(Check.groups("llllll", 8) + "-llll").many(), 1);
    }

    private static void manyUpTo200() {
        String[] unlike = {"ab", "abc", "abcd", "abcde", "abcdef", "abcdef-ghijkl"};
        for (String text : unlike) {
            Check.due("all unlike: " + text, disc(text).many(), 200);
            Check.due("? does not count: " + text, disc("?-" + text).many(), 200);
        }
        // n of n + 1 signs: n (n - 1) .. by the power n + 1 has its summit at some n n by 2.
        Check.due("12 of 13", disc("abcdef-ghijkl-a").many(), 74);
        Check.due("2 of 3", disc("aba").many(), 2);
        Check.due("12 of 12 many times", disc("abcdef-ghijkl-abcdef-ghijkl-abcdef-ghijkl").many(), 12);
    }

    private static void manyOfEqualOnesTheLeast() {
        // One sign is one KIND of any number alike: all are equal.
        Check.due("all equal", disc("l-?").many(), 1);
    }

    private static void script1To200() {
        for (int n : new int[] {0, 201, -1, FAR[0], FAR[1]}) {
            Twins.refused("script " + n + " first", Twins::rich, x -> x.script(n, 5));
            Twins.refused("script " + n + " last", Twins::rich, x -> x.script(5, n));
            Check.due("ahead of too few", disc("abcdef").script(n, 1), -1);
        }
        Twins.refused("no DISC", KindsBoundsTest::empty, x -> x.script(1, 200));
        Twins.refused("? alone", rich("?"), x -> x.script(1, 200));
        ClayDisc x = disc("ab");
        Check.due("200 and 199, all unlike", x.script(200, 199), 0);
        Check.due("199 and 200, all unlike", x.script(199, 200), 1);
        x = disc("aa");
        Check.due("1 and 200, all alike", x.script(1, 200), 0);
        Check.due("200 and 1, all alike", x.script(200, 1), 1);
        Twins.unchanged("script has no ROW", 0, Twins::rich, y -> y.script(3, 200));
    }

    private static void scriptOfFewerThanWereSeen() {
        ClayDisc x = disc("abc-cba");
        Check.due("2 and 2", x.script(2, 2), -2);
        Check.due("1 and 2", x.script(1, 2), -2);
        Check.due("2 and 3", x.script(2, 3), 1);
        Check.due("3 and 2", x.script(3, 2), 0);
        Check.due("2 and 200", x.script(2, 200), 1);
        Check.due("3 and 3", x.script(3, 3), 2);
        x = disc("abcdef-ghijkl");
        Check.due("11 and 11", x.script(11, 11), -2);
        Check.due("11 and 12", x.script(11, 12), 1);
    }

    private static void scriptAlike() {
        Check.due("the same number", disc("ab").script(200, 200), 2);
        Check.due("one sign", disc("a").script(1, 200), 2);
        // 2 of 3: (n - 1) by n n: 1 by 4 for 2 alone; 3 of 4: (n - 1) (n - 2) by n n n: .0741, .0938, .096, .0926.
        Check.due("3 of 4: 5 and 4", disc("aabc").script(5, 4), 0);
        Check.due("3 of 4: 5 and 6", disc("aabc").script(6, 5), 1);
    }

    private static void likeOfTwoPlaces() {
        Twins.refused("no DISC", KindsBoundsTest::empty, ClayDisc::like);
        Twins.refused("one PLACE", rich("a"), ClayDisc::like);
        Twins.refused("one that is no ?", rich("a?-??"), ClayDisc::like);
        Twins.refused("? alone", rich("??"), ClayDisc::like);
        ClayDisc x = disc("a?-?a");
        Check.due("two that are no ?", x.like(), 0);
        Check.dueRow("both like", x, 1, 1);
    }

    private static void likeAsAFraction() {
        ClayDisc x = disc("abcdef-ghijkl");
        Check.due("all unlike", x.like(), 0);
        Check.dueRow("0 by 1", x, 0, 1);
        x = disc("aabb");
        x.like();
        Check.dueRow("2 of 6 in lowest terms", x, 1, 3);
        x = disc(Check.groups("aaaaaa", 8) + "-aaab");
        x.like();
        // 51 times 50 by 52 times 51.
        Check.dueRow("51 of 52", x, 25, 26);
    }

    private static void repeatOfNoGroups() {
        Twins.refused("no GROUPS", KindsBoundsTest::empty, ClayDisc::repeat);
        ClayDisc x = disc("a");
        Check.due("one GROUP", x.repeat(), 0);
        Check.dueRow("one GROUP", x, 0);
        x = disc(Check.groups("a", 12));
        Check.due("twelve alike", x.repeat(), 66);
        Check.dueRow("twelve alike", x, 66000000);
        x = disc(Check.groups("?", 12));
        Check.due("none without ?", x.repeat(), 0);
        Check.dueRow("none without ?", x, 0);
    }

    private static void repeatOfPairsAsLong() {
        ClayDisc x = disc("aa-a");
        Check.due("one is longer", x.repeat(), 0);
        Check.dueRow("one is longer", x, 0);
        x = disc("aa-aa");
        Check.due("as long", x.repeat(), 1);
        Check.dueRow("as long", x, 1000000);
        x = disc("aa-a?");
        Check.due("one with ?", x.repeat(), 0);
        Check.dueRow("one with ?", x, 0);
        x = disc("abcdef-abcdee");
        Check.due("the last sign unlike", x.repeat(), 0);
        x = disc("abcdef-bbcdef");
        Check.due("the first sign unlike", x.repeat(), 0);
        x = disc("abcdef-abcdef");
        Check.due("six signs", x.repeat(), 1);
        // 24 by 144 is 1 by 6, to the power of 6: 1000000 by 46656.
        Check.dueRow("six signs", x, 21);
    }

    private static void repeatIsCut() {
        // a twice, b once: 5 by 9.
        ClayDisc x = disc("a-b-a");
        Check.due("one of three", x.repeat(), 1);
        Check.dueRow("each of three is cut: 3 times 555555", x, 1666665);
        // 1 by 3 for each of three KINDS, of two signs: 1 by 9.
        x = disc("ab-bc-ca");
        Check.due("none", x.repeat(), 0);
        Check.dueRow("3 times 111111", x, 333333);
        // 12 KINDS twice each less one place: 1 by 12 to the power of 6: 1000000 by 2985984 is less than 1.
        x = disc("abcdef-ghijkl");
        x.repeat();
        Check.dueRow("cut to 0", x, 0);
    }

    private static void rhyme1To3() {
        for (int n : new int[] {0, 4, -1, FAR[0], FAR[1]}) {
            Twins.refused("rhyme of " + n, Twins::rich, x -> x.rhyme(0, n));
            Twins.refused("begin with " + n, Twins::rich, x -> x.rhyme(1, n));
        }
        for (int what : new int[] {-1, 2, FAR[0], FAR[1]}) {
            Twins.refused("rhyme what " + what, Twins::rich, x -> x.rhyme(what, 1));
        }
        ClayDisc x = disc("abcd-abcd");
        for (int n = 1; n <= 3; n++) {
            Check.due("end with " + n, x.rhyme(0, n), 1);
            Check.dueRow("end with " + n, x, 3);
            Check.due("begin with " + n, x.rhyme(1, n), 1);
            Check.dueRow("begin with " + n, x, 3);
        }
        x = new ClayDisc();
        Check.due("no GROUPS", x.rhyme(0, 1), 0);
        Check.dueRow("no GROUPS", x, 0);
        x = disc(Check.groups("a", 12));
        Check.due("twelve", x.rhyme(0, 1), 66);
        Check.dueRow("twelve", x, 4095);
    }

    private static void rhymeOfGroupsAsLongAtLeast() {
        ClayDisc x = disc("a-ba-cba-dcba");
        Check.due("end with 1", x.rhyme(0, 1), 6);
        Check.dueRow("end with 1", x, 15);
        Check.due("end with 2", x.rhyme(0, 2), 3);
        Check.dueRow("end with 2", x, 14);
        Check.due("end with 3", x.rhyme(0, 3), 1);
        Check.dueRow("end with 3", x, 12);
        x = disc("a-ab-abc-abcd");
        Check.due("begin with 1", x.rhyme(1, 1), 6);
        Check.due("begin with 2", x.rhyme(1, 2), 3);
        Check.due("begin with 3", x.rhyme(1, 3), 1);
        Check.dueRow("begin with 3", x, 12);
        x = disc("ab-ab");
        Check.due("one sign too short", x.rhyme(1, 3), 0);
        Check.dueRow("one sign too short", x, 0);
        // Signs of the GROUP beside do not count.
        for (String text : new String[] {"ab-a-b", "a-b-ab", "a-ab-b", "a-b-a-b"}) {
            for (int what = 0; what <= 1; what++) {
                x = disc(text);
                Check.due(text + ": one GROUP alone has two signs, or none", x.rhyme(what, 2), 0);
                Check.dueRow(text, x, 0);
            }
        }
    }

    private static void rhymeWithoutUnseen() {
        ClayDisc x = disc("?ab-?ab");
        Check.due("? just ahead of two", x.rhyme(0, 2), 1);
        Check.due("? among three", x.rhyme(0, 3), 0);
        Check.dueRow("? among three", x, 0);
        x = disc("ab?-ab?");
        Check.due("? just behind two", x.rhyme(1, 2), 1);
        Check.due("? among three from the first", x.rhyme(1, 3), 0);
        Check.due("? is the last", x.rhyme(0, 1), 0);
        x = disc("ab-?b");
        Check.due("? of one of them", x.rhyme(0, 2), 0);
        Check.due("b alone", x.rhyme(0, 1), 1);
    }

    private static void axe1To45() {
        for (int all : new int[] {0, 46, -1, FAR[0], FAR[1]}) {
            Twins.refused("axe of all " + all, Twins::rich, x -> x.axe(all, 0, 0, 0));
        }
        ClayDisc x = new ClayDisc();
        Check.due("1", x.axe(1, 1, 1, 1), 0);
        Check.dueRow("1", x, 1, 1);
        Check.due("45", x.axe(45, 1, 1, 1), 0);
        Check.dueRow("45", x, 1, 45);
        Check.due("45, the dearest", x.axe(45, 23, 22, 22), 0);
        // 23 by 45 over 22, which is 4116715363800 and no multiple of 23.
        Check.dueRow("45, the dearest", x, 23, 4116715363800L);
    }

    private static void axeOfOthers() {
        int[][] others = {{9, -1, 3, 1}, {9, 10, 3, 1}, {9, 4, -1, 0}, {9, 4, -1, -1}, {9, 4, 10, 1}, {9, 4, 3, -1}, {9, 4, 3, 4},
            {9, FAR[0], 3, 1}, {9, FAR[1], 3, 1}, {9, 4, FAR[0], 1}, {9, 4, FAR[1], 1}, {9, 4, 3, FAR[0]}, {9, 4, 3, FAR[1]}};
        for (int[] o : others) {
            Twins.refused("axe " + o[0] + " " + o[1] + " " + o[2] + " " + o[3], Twins::rich, x -> x.axe(o[0], o[1], o[2], o[3]));
        }
        int[][] within = {{9, 0, 3, 1}, {9, 9, 3, 1}, {9, 4, 0, 0}, {9, 4, 9, 1}, {9, 4, 3, 0}, {9, 4, 3, 3}};
        for (int[] o : within) {
            Check.due("within", new ClayDisc().axe(o[0], o[1], o[2], o[3]), 0);
        }
    }

    private static void axeOfNoneAndOfAll() {
        ClayDisc x = new ClayDisc();
        x.axe(9, 0, 3, 1);
        Check.dueRow("none is THE DISC's: 0 by 1", x, 0, 1);
        x.axe(9, 0, 3, 0);
        Check.dueRow("0 or more: always", x, 1, 1);
        x.axe(9, 9, 3, 3);
        Check.dueRow("all are THE DISC's", x, 1, 1);
        x.axe(9, 4, 9, 4);
        Check.dueRow("all are drawn", x, 1, 1);
        x.axe(9, 4, 9, 5);
        Check.dueRow("all are drawn, one too many", x, 0, 1);
        x.axe(9, 4, 3, 3);
        // 4 by 84.
        Check.dueRow("three of three", x, 1, 21);
        x.axe(9, 2, 3, 3);
        Check.dueRow("more than THE DISC has", x, 0, 1);
    }
}
