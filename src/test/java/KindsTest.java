/** Promises 28 to 34: kinds and repeats. */
public final class KindsTest {
    public static void main(String[] args) {
        kinds();
        many();
        scripts();
        likes();
        repeats();
        rhymes();
        axes();
        Check.over("kinds");
    }

    private static ClayDisc disc(String text) {
        ClayDisc x = new ClayDisc();
        Check.disc(x, text);
        return x;
    }

    private static void kinds() {
        ClayDisc x = new ClayDisc();
        Check.due("nothing told", x.kinds(), 0);
        Check.dueRow("nothing told", x, 0, 0, 0, 0, 0, 0, 0, 0, 0, 0, 0, 0, 0);
        x = disc("ab?-?al-?");
        Check.due("kinds", x.kinds(), 3);
        Check.dueRow("kinds", x, 2, 1, 0, 0, 0, 0, 0, 0, 0, 0, 0, 1, 3);
        x.way();
        Check.due("kinds behind another ROW", x.kinds(), 3);
        Check.dueRow("kinds behind another ROW", x, 2, 1, 0, 0, 0, 0, 0, 0, 0, 0, 0, 1, 3);
    }

    private static void many() {
        Check.due("nothing told", new ClayDisc().many(), -1);
        Check.due("? alone", disc("?-??").many(), -1);
        Check.due("one sign: all alike, the least", disc("a").many(), 1);
        Check.due("one kind", disc("aa?").many(), 1);
        Check.due("two of two: ever likelier", disc("ab").many(), 200);
        // 2 of 3 signs: n (n - 1) by n n n, 2 by 8, 6 by 27, 12 by 64: 3 and 2: 2 by 9 and 1 by 4.
        Check.due("two of three", disc("aab").many(), 2);
        // 3 of 4 signs: 6 by 81 (.0741), 24 by 256 (.0938), 60 by 625 (.096), 120 by 1296 (.0926).
        Check.due("three of four", disc("aabc").many(), 5);
        Check.due("? does not count", disc("aabc?-??").many(), 5);
        Check.due("twelve unlike", disc("abcdef-ghijkl").many(), 200);
        Check.due("twelve of thirteen", disc("abcdef-ghijkl-a").many(), 74);
        Check.due("twelve of 52", disc("abcdef-ghijkl-abcdef-ghijkl-abcdef-ghijkl-abcdef-ghijkl-abcd").many(), 12);
    }

    private static void scripts() {
        Check.due("nothing told", new ClayDisc().script(1, 1), -1);
        Check.due("? alone", disc("?").script(1, 1), -1);
        ClayDisc x = disc("aabc");
        Check.due("5 and 4", x.script(5, 4), 0);
        Check.due("4 and 6", x.script(4, 6), 0);
        Check.due("3 and 4", x.script(3, 4), 1);
        Check.due("alike", x.script(7, 7), 2);
        Check.due("too few, enough", x.script(2, 200), 1);
        Check.due("enough, too few", x.script(200, 2), 0);
        Check.due("both too few", x.script(1, 2), -2);
        Check.due("0", x.script(0, 5), -1);
        Check.due("201", x.script(5, 201), -1);
        Check.due("-1", x.script(5, -1), -1);
        Check.due("one sign: alike whatever they are", disc("a").script(1, 200), 2);
        Check.due("one sign: alike the other way too", disc("a").script(200, 1), 2);
        // 2 of 3 signs: (n - 1) by n n, which is 2 by 9 for 3 and 3 by 16 for 4.
        Check.due("two of three", disc("aab").script(4, 3), 1);
        // 3 of 4 signs: (n - 1) (n - 2) by n n n: 2 by 27 for 3, and 6 by 81 nowhere: 9 has 56 by 729.
        Check.due("three of four", x.script(3, 9), 1);
        Check.due("three of four, far off", x.script(3, 12), 0);
        Check.due("far off, just enough", x.script(12, 3), 1);
        Check.due("just enough, too few", x.script(3, 2), 0);
        Check.due("too few, just enough", x.script(2, 3), 1);
    }

    private static void likes() {
        Check.due("nothing told", new ClayDisc().like(), -1);
        Check.due("one sign", disc("a?").like(), -1);
        ClayDisc x = disc("ab-?");
        Check.due("two unlike", x.like(), 0);
        Check.dueRow("0 by 1", x, 0, 1);
        x = disc("aa");
        x.like();
        Check.dueRow("two like", x, 1, 1);
        x = disc("a?-?b?");
        x.like();
        Check.dueRow("? are not alike", x, 0, 1);
        x = disc("aab?-bac");
        // a 3, b 2, c 1: 3 and 1 of 15 pairs.
        Check.due("like", x.like(), 0);
        Check.dueRow("like", x, 4, 15);
    }

    private static void repeats() {
        Check.due("nothing told", new ClayDisc().repeat(), -1);
        ClayDisc x = disc("?-?-?");
        Check.due("? alone", x.repeat(), 0);
        Check.dueRow("? alone", x, 0);
        x = disc("ab-ab-cb");
        // 4 + 9 + 1 by 36: squared .15123456..., three times, each cut.
        Check.due("one pair", x.repeat(), 1);
        Check.dueRow("one pair", x, 453702);
        x = disc("abcdef-ghijkl");
        Check.due("less than one part", x.repeat(), 0);
        Check.dueRow("less than one part", x, 0);
        x = disc("a-a-a?-a?-bb");
        // a 4, b 2: 20 by 36 = 5 by 9; the groups with ? count in no pair, bb has none as long.
        Check.due("? in no pair", x.repeat(), 1);
        Check.dueRow("? in no pair", x, 555555);
        x = disc("aaaaaa-aaaaaa-aaaaaa");
        Check.due("all alike", x.repeat(), 3);
        Check.dueRow("all alike", x, 3000000);
        x = disc("abcdef-abcdef-abcdef-abcdef-abcdef-abcdef-abcdef-abcdef-aaa");
        // a 11, the others 8: 441 by 2601 = 49 by 289, to the power of 6: .0000237...: 23 for each of 28 pairs.
        Check.due("long ones", x.repeat(), 28);
        Check.dueRow("long ones", x, 23 * 28);
    }

    private static void rhymes() {
        ClayDisc x = new ClayDisc();
        Check.due("nothing told", x.rhyme(0, 1), 0);
        Check.dueRow("nothing told", x, 0);
        x = disc("abc-dbc-c-bcb-a?c");
        Check.due("end with one", x.rhyme(0, 1), 6);
        Check.dueRow("end with one", x, 1 + 2 + 4 + 16);
        Check.due("end with two", x.rhyme(0, 2), 1);
        Check.dueRow("end with two", x, 3);
        Check.due("end with three", x.rhyme(0, 3), 0);
        Check.dueRow("end with three", x, 0);
        Check.due("begin with one", x.rhyme(1, 1), 1);
        Check.dueRow("begin with one", x, 17);
        Check.due("begin with two, ? is like nothing", x.rhyme(1, 2), 0);
        x = disc("a?-a?-?b-?b");
        Check.due("? alike is not alike", x.rhyme(0, 1), 1);
        Check.dueRow("? alike is not alike", x, 12);
        Check.due("? among two", x.rhyme(0, 2), 0);
        x = disc("abcd-abce-fabc");
        Check.due("begin with three", x.rhyme(1, 3), 1);
        Check.dueRow("begin with three", x, 3);
        Check.due("what 2", x.rhyme(2, 1), -1);
        Check.due("what -1", x.rhyme(-1, 1), -1);
        Check.due("n 0", x.rhyme(0, 0), -1);
        Check.due("n 4", x.rhyme(0, 4), -1);
        Check.dueRow("the ROW stays", x, 3);
    }

    private static void axes() {
        ClayDisc x = new ClayDisc();
        Check.due("axe", x.axe(4, 2, 2, 1), 0);
        Check.dueRow("1 less 1 by 6", x, 5, 6);
        Check.due("all", x.axe(10, 4, 3, 0), 0);
        Check.dueRow("all", x, 1, 1);
        Check.due("never", x.axe(10, 2, 3, 3), 0);
        Check.dueRow("never", x, 0, 1);
        Check.due("must", x.axe(5, 4, 3, 2), 0);
        Check.dueRow("must", x, 1, 1);
        Check.due("all are the disc's", x.axe(7, 7, 3, 3), 0);
        Check.dueRow("all are the disc's", x, 1, 1);
        Check.due("all are drawn", x.axe(7, 3, 7, 4), 0);
        Check.dueRow("all are drawn", x, 0, 1);
        Check.due("no signs", x.axe(1, 0, 0, 0), 0);
        Check.dueRow("no signs", x, 1, 1);
        // 45, of which 10 are the disc's, 4 drawn: C(10,4) by C(45,4) = 210 by 148995 = 2 by 1419.
        Check.due("four of four", x.axe(45, 10, 4, 4), 0);
        Check.dueRow("four of four", x, 2, 1419);
        x.axe(45, 22, 22, 22);
        Check.dueRow("the dearest", x, 1, 4116715363800L);
        int[][] others = {{0, 0, 0, 0}, {46, 1, 1, 1}, {5, 6, 1, 1}, {5, -1, 1, 1}, {5, 1, 6, 1}, {5, 1, -1, 0}, {5, 1, 2, 3},
            {5, 1, 2, -1}, {-1, -1, -1, -1}, {Integer.MAX_VALUE, 1, 1, 1}, {Integer.MIN_VALUE, 0, 0, 0}};
        for (int[] o : others) {
            Check.due("others", x.axe(o[0], o[1], o[2], o[3]), -1);
        }
        Check.dueRow("the ROW stays", x, 1, 4116715363800L);
    }
}
