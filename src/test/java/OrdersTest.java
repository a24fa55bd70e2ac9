/** Promises 21 to 27: orders. */
public final class OrdersTest {
    public static void main(String[] args) {
        overs();
        orders();
        shares();
        ends();
        ways();
        lots();
        mends();
        Check.over("orders");
    }

    private static ClayDisc disc(String text, int... overs) {
        ClayDisc x = new ClayDisc();
        Check.disc(x, text);
        for (int i = 0; i + 1 < overs.length; i += 2) {
            x.over(overs[i], overs[i + 1]);
        }
        return x;
    }

    private static void overs() {
        ClayDisc x = new ClayDisc();
        Check.due("no places", x.over(0, 1), -1);
        Check.disc(x, "abc-?d");
        Check.due("over", x.over(1, 0), 1);
        Check.due("told already", x.over(1, 0), -1);
        Check.due("the other way", x.over(0, 1), 2);
        Check.due("itself", x.over(2, 2), -1);
        Check.due("place 5", x.over(5, 0), -1);
        Check.due("place -1", x.over(0, -1), -1);
        Check.due("far off", x.over(Integer.MAX_VALUE, Integer.MIN_VALUE), -1);
        Check.due("the last place", x.over(4, 0), 3);
        Check.due("overs", x.count(9), 3);
        int n = 3;
        for (int p = 0; p < 3; p++) {
            for (int q = 2; q < 5; q++) {
                if (p != q) {
                    n++;
                    Check.due("over " + n, x.over(p, q), n);
                }
            }
        }
        Check.due("eleven", x.count(9), 11);
        Check.due("the twelfth", x.over(4, 3), 12);
        Check.due("a thirteenth", x.over(3, 4), -1);
        Check.due("twelve", x.count(9), 12);
        Check.disc(x, "ab");
        Check.due("a new disc has none", x.count(9), 0);
        x = disc("abcdef-abcdef-abcdef-abcdef-abcdef-abcdef-abcdef-abcdef-abcd");
        Check.due("far places", x.over(51, 0), 1);
        Check.due("place 52", x.over(52, 0), -1);
    }

    private static void orders() {
        ClayDisc x = new ClayDisc();
        Check.due("no places", x.orders(), -1);
        x = disc("a");
        Check.due("one", x.orders(), 0);
        Check.dueRow("one", x, 1);
        x = disc("ab-cd", 1, 0, 3, 2);
        Check.due("two pairs", x.orders(), 0);
        Check.dueRow("24 by 4", x, 6);
        x.over(2, 1);
        Check.due("a chain", x.orders(), 0);
        Check.dueRow("a chain", x, 1);
        x.over(0, 3);
        Check.due("a ring", x.orders(), -2);
        Check.dueRow("the ROW stays", x, 1);
        x = disc("abcdef-abcdef-ab");
        Check.due("14", x.orders(), 0);
        Check.dueRow("14", x, 87178291200L);
        for (int i = 0; i < 12; i++) {
            x.over(i + 2, i);
        }
        // Two chains of seven: 14 over 7.
        Check.due("two chains", x.orders(), 0);
        Check.dueRow("two chains", x, 3432);
        x = disc("abcdef-abcdef-abc");
        Check.due("15", x.orders(), -1);
        Check.due("15", x.ahead(0, 1), -1);
        Check.due("15", x.ends(0), -1);
    }

    private static void shares() {
        ClayDisc x = disc("abcd", 1, 0);
        Check.due("told", x.ahead(0, 1), 0);
        Check.dueRow("told", x, 1, 1);
        Check.due("told, the other way", x.ahead(1, 0), 0);
        Check.dueRow("told, the other way", x, 0, 1);
        Check.due("0 and 2", x.ahead(0, 2), 0);
        Check.dueRow("0 and 2", x, 2, 3);
        Check.due("1 and 2", x.ahead(1, 2), 0);
        Check.dueRow("1 and 2", x, 1, 3);
        Check.due("3 and 2", x.ahead(3, 2), 0);
        Check.dueRow("3 and 2", x, 1, 2);
        Check.due("itself", x.ahead(2, 2), -1);
        Check.due("place 4", x.ahead(4, 0), -1);
        Check.due("place 4", x.ahead(0, 4), -1);
        Check.due("place -1", x.ahead(-1, 0), -1);
        Check.dueRow("the ROW stays", x, 1, 2);
        x.over(0, 1);
        Check.due("a ring", x.ahead(2, 3), -2);
        Check.due("a ring, but refused", x.ahead(2, 2), -1);
        Check.dueRow("the ROW stays", x, 1, 2);
        Check.due("no places", new ClayDisc().ahead(0, 1), -1);
    }

    private static void ends() {
        ClayDisc x = disc("abcd", 1, 0, 2, 0);
        Check.due("first", x.ends(0), 9);
        Check.due("last", x.ends(1), 14);
        Check.due("what 2", x.ends(2), -1);
        Check.due("what -1", x.ends(-1), -1);
        x.over(0, 2);
        Check.due("a ring", x.ends(0), -2);
        Check.due("a ring, but refused", x.ends(2), -1);
        Check.due("no places", new ClayDisc().ends(0), -1);
        Check.due("one place", disc("a").ends(1), 1);
    }

    private static void ways() {
        ClayDisc x = new ClayDisc();
        Check.due("nothing told", x.way(), 0);
        Check.dueRow("nothing told", x, 0, 0);
        x = disc("abc-de", 1, 0, 2, 0, 3, 2, 2, 3, 3, 4, 1, 2);
        // 2 0 is two apart; 3 2 and 2 3 are of two groups.
        Check.due("the lesser behind", x.way(), 2);
        Check.dueRow("the lesser behind", x, 1, 2);
        x.over(4, 3);
        Check.due("as many", x.way(), 0);
        Check.dueRow("as many", x, 2, 2);
        x.over(2, 1);
        Check.due("the greater behind", x.way(), 1);
        Check.dueRow("the greater behind", x, 3, 2);
    }

    private static void lots() {
        ClayDisc x = new ClayDisc();
        Check.due("nothing told", x.lot(), 0);
        Check.dueRow("nothing told", x, 1, 1);
        x = disc("abcdef", 1, 0, 2, 1, 3, 2);
        Check.due("3 of 3", x.lot(), 0);
        Check.dueRow("2 by 8", x, 1, 4);
        x.over(3, 4);
        Check.due("3 of 4", x.lot(), 0);
        Check.dueRow("2 times (4 and 1) by 16", x, 5, 8);
        x.over(4, 5);
        Check.due("3 of 5", x.lot(), 0);
        Check.dueRow("all", x, 1, 1);
        x.over(5, 4);
        Check.due("4 of 6", x.lot(), 0);
        Check.dueRow("2 times (15 and 6 and 1) by 64", x, 11, 16);
        x = disc("abcdef", 0, 1, 1, 2, 2, 3, 3, 4, 4, 5, 1, 0);
        Check.due("5 of 6, the lesser behind", x.lot(), 0);
        Check.dueRow("2 times (6 and 1) by 64", x, 7, 32);
    }

    private static void mends() {
        ClayDisc x = disc("abcdef", 1, 0, 2, 1, 3, 2);
        Check.due("no ring", x.mend(), 0);
        Check.dueRow("no ring", x, 0);
        x.over(0, 3);
        Check.due("one ring", x.mend(), 1);
        Check.dueRow("the least", x, 1);
        x.over(1, 2);
        // 1 2 and 2 1 make a ring too: the second over (bit 1) is in both.
        Check.due("two rings", x.mend(), 1);
        Check.dueRow("the one in both", x, 2);
        x.over(5, 4);
        x.over(4, 5);
        Check.due("three rings", x.mend(), 2);
        Check.dueRow("three rings", x, 2 + 32);
        x = disc("abcdef-abcdef-a");
        for (int p = 12; p > 0; p--) {
            x.over(p, p - 1);
        }
        Check.due("a chain of twelve", x.mend(), 0);
        Check.due("the first of a chain of twelve", x.ends(0), 1);
        Check.due("the last of a chain of twelve", x.ends(1), 4096);
        x = disc("abcdef-abcdef-abcdef");
        for (int p = 5; p < 17; p += 2) {
            x.over(p, p + 1);
            x.over(p + 1, p);
        }
        Check.due("six rings of two, more than 14 places", x.mend(), 6);
        Check.dueRow("the first of each", x, 0b010101010101);
    }
}
