/** Promises 21 to 27, and what the terms say of OVERS and ORDERS: each sentence that names a bound, at it and past it. */
public final class OrdersBoundsTest {
    public static void main(String[] args) {
        overOfPlacesThatThereAre();
        overWithItself();
        overToldAlready();
        oversUpToTwelve();
        oversOfMoreThan14Places();
        ordersOf1To14Places();
        ordersOfARing();
        aheadOfPlacesThatThereAre();
        aheadOfARing();
        aheadAsAFraction();
        ends0And1();
        endsOfARing();
        wayOfNeighboursOfOneGroup();
        wayOfAsMany();
        lotOfNoneAndOfTwelve();
        lotOfAsMany();
        mendOfNoRing();
        mendTheLeastOfAsFew();
        mendOfTwelve();
        Check.over("bounds of orders");
    }

    private static final int[] FAR = {Integer.MIN_VALUE, Integer.MAX_VALUE};

    private static ClayDisc disc(String text, int... overs) {
        ClayDisc x = new ClayDisc();
        Check.disc(x, text);
        for (int i = 0; i + 1 < overs.length; i += 2) {
            x.over(overs[i], overs[i + 1]);
        }
        return x;
    }

    private static void overOfPlacesThatThereAre() {
        Twins.refused("no PLACES", x -> x.claim(), x -> x.over(0, 1));
        int[][] others = {{-1, 0}, {0, -1}, {6, 0}, {0, 6}, {FAR[0], 0}, {0, FAR[0]}, {FAR[1], 0}, {0, FAR[1]}, {-1, 6}};
        for (int[] o : others) {
            Twins.refused("over " + o[0] + " " + o[1], Twins::rich, x -> x.over(o[0], o[1]));
        }
        ClayDisc x = disc("ab-ba-ac");
        Check.due("the last behind the first", x.over(5, 0), 1);
        Check.due("the first behind the last", x.over(0, 5), 2);
        Check.due("one PLACE alone", disc("a").over(0, 1), -1);
        x = disc(Check.groups("abcdef", 8) + "-abcd");
        Check.due("PLACE 51", x.over(0, 51), 1);
        Check.due("PLACE 52", x.over(0, 52), -1);
    }

    private static void overWithItself() {
        for (int place : new int[] {0, 5}) {
            Twins.refused("one with itself", Twins::rich, x -> x.over(place, place));
        }
        Check.due("one with itself, the only one", disc("a").over(0, 0), -1);
    }

    private static void overToldAlready() {
        Twins.refused("told already", Twins::rich, x -> x.over(1, 0));
        Twins.refused("told last", Twins::rich, x -> x.over(5, 4));
        ClayDisc x = new ClayDisc();
        Twins.rich(x);
        Check.due("the other way is another one", x.over(0, 1), 4);
        Check.due("told by now", x.over(0, 1), -1);
    }

    /** Twelve OVERS: each of PLACES 0, 1, 2 behind each of 3 .. 6. */
    private static void twelve(ClayDisc x) {
        Check.disc(x, "abcd-efg");
        for (int p = 0; p < 3; p++) {
            for (int q = 3; q < 7; q++) {
                x.over(p, q);
            }
        }
        x.kinds();
    }

    private static void oversUpToTwelve() {
        ClayDisc x = disc("abcd-efg");
        int n = 0;
        for (int p = 0; p < 3; p++) {
            for (int q = 3; q < 7; q++) {
                n++;
                Check.due("OVER " + n, x.over(p, q), n);
            }
        }
        Check.due("twelve", x.count(9), 12);
        Twins.refused("a thirteenth", OrdersBoundsTest::twelve, y -> y.over(0, 1));
        Twins.refused("a thirteenth that is told already", OrdersBoundsTest::twelve, y -> y.over(2, 6));
        // Four PLACES first in any order, then three.
        Check.due("twelve hold", x.orders(), 0);
        Check.dueRow("twelve hold", x, 24 * 6);
        Check.disc(x, "ab");
        Check.due("a new DISC has room", x.over(1, 0), 1);
    }

    private static void oversOfMoreThan14Places() {
        ClayDisc x = disc("abcdef-abcdef-abc");
        Check.due("15 PLACES", x.over(14, 13), 1);
        Check.due("way", x.way(), 1);
        Check.due("mend", x.mend(), 0);
        Check.due("a ring", x.over(13, 14), 2);
        Check.due("mend a ring", x.mend(), 1);
        Check.dueRow("mend a ring", x, 1);
        Check.due("but no ORDERS", x.orders(), -1);
    }

    private static String places(int n) {
        StringBuilder text = new StringBuilder();
        for (int i = 0; i < n; i++) {
            text.append(i > 0 && i % 6 == 0 ? "-?" : "?");
        }
        return text.toString();
    }

    private static void ordersOf1To14Places() {
        Twins.Telling none = x -> {
            x.claim();
            x.kinds();
        };
        Twins.refused("no PLACES: orders", none, ClayDisc::orders);
        Twins.refused("no PLACES: ahead", none, x -> x.ahead(0, 1));
        Twins.refused("no PLACES: ends", none, x -> x.ends(0));
        Twins.Telling more = Twins.richAnd(x -> {
            Check.disc(x, places(15));
            x.over(0, 1);
            x.kinds();
        });
        Twins.refused("15 PLACES: orders", more, ClayDisc::orders);
        Twins.refused("15 PLACES: ahead", more, x -> x.ahead(0, 1));
        Twins.refused("15 PLACES: ends", more, x -> x.ends(0));
        long all = 1;
        for (int n = 1; n <= 14; n++) {
            all *= n;
            ClayDisc x = disc(places(n));
            Check.due(n + " PLACES", x.orders(), 0);
            Check.dueRow(n + " PLACES", x, all);
            Check.due(n + " PLACES: ends", x.ends(1), (1 << n) - 1);
        }
        ClayDisc x = disc(places(14));
        for (int p = 0; p < 12; p++) {
            x.over(p, p + 1);
        }
        // A chain of 13, and one PLACE anywhere in it.
        x.orders();
        Check.dueRow("a chain of 13 of 14", x, 14);
        Check.due("PLACE 13 with PLACE 0", x.ahead(13, 0), 0);
        Check.dueRow("PLACE 13 with PLACE 0", x, 13, 14);
        Check.due("first", x.ends(0), 1 << 12 | 1 << 13);
        Check.due("last", x.ends(1), 1 | 1 << 13);
        Check.disc(x, Check.groups("abcdef", 8) + "-abcd");
        Check.due("52 PLACES", x.orders(), -1);
    }

    private static Twins.Telling ring(int places, int length) {
        return x -> {
            Check.disc(x, places(places));
            for (int p = 0; p < length; p++) {
                x.over(p, (p + 1) % length);
            }
            x.kinds();
        };
    }

    private static void ordersOfARing() {
        Twins.unchanged("a ring of two", -2, ring(2, 2), ClayDisc::orders);
        Twins.unchanged("a ring of two of 14", -2, ring(14, 2), ClayDisc::orders);
        Twins.unchanged("a ring of twelve", -2, ring(12, 12), ClayDisc::orders);
        ClayDisc x = disc(places(12));
        for (int p = 0; p < 11; p++) {
            x.over(p, p + 1);
        }
        Check.due("no ring yet", x.orders(), 0);
        Check.dueRow("no ring yet", x, 1);
        x.over(11, 0);
        Check.due("a ring now", x.orders(), -2);
        // 15 PLACES with a ring: NONE.
        Twins.refused("a ring of too many PLACES", ring(15, 2), ClayDisc::orders);
    }

    private static void aheadOfPlacesThatThereAre() {
        int[][] others = {{-1, 0}, {0, -1}, {6, 0}, {0, 6}, {FAR[0], 0}, {0, FAR[0]}, {FAR[1], 0}, {0, FAR[1]}, {0, 0}, {5, 5}};
        for (int[] o : others) {
            Twins.refused("ahead " + o[0] + " " + o[1], Twins::rich, x -> x.ahead(o[0], o[1]));
            Twins.refused("ahead with a ring " + o[0] + " " + o[1], ring(6, 3), x -> x.ahead(o[0], o[1]));
        }
        ClayDisc x = disc(places(14));
        Check.due("PLACES 0 and 13", x.ahead(0, 13), 0);
        Check.dueRow("PLACES 0 and 13", x, 1, 2);
        Check.due("PLACE 14", x.ahead(0, 14), -1);
        Check.due("one PLACE", disc("a").ahead(0, 1), -1);
    }

    private static void aheadOfARing() {
        Twins.unchanged("a ring", -2, ring(3, 2), x -> x.ahead(0, 1));
        Twins.unchanged("a ring elsewhere", -2, ring(4, 2), x -> x.ahead(2, 3));
    }

    private static void aheadAsAFraction() {
        ClayDisc x = disc("abc", 1, 0);
        x.ahead(0, 1);
        Check.dueRow("always: 1 by 1", x, 1, 1);
        x.ahead(1, 0);
        Check.dueRow("never: 0 by 1", x, 0, 1);
        x.ahead(0, 2);
        Check.dueRow("in lowest terms", x, 2, 3);
        x.ahead(2, 0);
        Check.dueRow("the rest", x, 1, 3);
    }

    private static void ends0And1() {
        for (int what : new int[] {-1, 2, FAR[0], FAR[1]}) {
            Twins.refused("ends " + what, Twins::rich, x -> x.ends(what));
            Twins.refused("ends of a ring " + what, ring(3, 2), x -> x.ends(what));
        }
        // OVERS 1 0, 3 2, 5 4.
        Twins.unchanged("first: ends has no ROW", 0b010101, Twins::rich, x -> x.ends(0));
        Twins.unchanged("last: ends has no ROW", 0b101010, Twins::rich, x -> x.ends(1));
        Check.due("one PLACE, first", disc("a").ends(0), 1);
        Check.due("one PLACE, last", disc("a").ends(1), 1);
        Check.due("PLACE 13", disc(places(14), 13, 0).ends(0), (1 << 13) - 1);
        Check.due("PLACE 13", disc(places(14), 0, 13).ends(1), (1 << 13) - 1);
    }

    private static void endsOfARing() {
        Twins.unchanged("a ring, first", -2, ring(14, 2), x -> x.ends(0));
        Twins.unchanged("a ring, last", -2, ring(14, 12), x -> x.ends(1));
    }

    private static void wayOfNeighboursOfOneGroup() {
        ClayDisc x = disc("ab-ba", 1, 0, 2, 1, 3, 1);
        // 2 1 is of two GROUPS, 3 1 is two apart too.
        Check.due("one of three", x.way(), 1);
        Check.dueRow("one of three", x, 1, 0);
        x = disc("abc", 2, 0, 0, 2);
        Check.due("two apart", x.way(), 0);
        Check.dueRow("two apart", x, 0, 0);
        x = disc(Check.groups("abcdef", 8) + "-abcd", 50, 51, 47, 48);
        Check.due("the last GROUP", x.way(), 2);
        Check.dueRow("the last GROUP", x, 0, 1);
    }

    private static void wayOfAsMany() {
        ClayDisc x = new ClayDisc();
        Check.due("no DISC", x.way(), 0);
        Check.dueRow("no DISC", x, 0, 0);
        x = disc("abcdef", 1, 0, 1, 2);
        Check.due("as many", x.way(), 0);
        Check.dueRow("as many", x, 1, 1);
        x.over(3, 2);
        Check.due("one more", x.way(), 1);
        Check.dueRow("one more", x, 2, 1);
        x.over(3, 4);
        x.over(4, 5);
        Check.due("one more of the others", x.way(), 2);
        Check.dueRow("one more of the others", x, 2, 3);
    }

    private static void lotOfNoneAndOfTwelve() {
        ClayDisc x = new ClayDisc();
        Check.due("none told", x.lot(), 0);
        Check.dueRow("none told: all ways", x, 1, 1);
        x = disc("abc-d", 2, 0, 3, 2);
        x.lot();
        Check.dueRow("no such ones", x, 1, 1);
        x.over(1, 0);
        x.lot();
        Check.dueRow("one of one goes some way", x, 1, 1);
        x.over(2, 1);
        x.lot();
        Check.dueRow("two of two: 2 by 4", x, 1, 2);
        x = disc("abcdef-abcdef-abc");
        for (int p = 0; p < 14; p++) {
            x.over(p, p + 1);
        }
        // PLACES 5 6 and 11 12 are of two GROUPS, so ten of the twelve; 13 14 was a thirteenth.
        x.lot();
        Check.dueRow("ten of ten: 2 by 1024", x, 1, 512);
        x = disc("abcdef-abcdef-abc");
        for (int p : new int[] {0, 1, 2, 3, 4, 6, 7, 8, 9, 10, 12, 13}) {
            x.over(p, p + 1);
        }
        x.lot();
        Check.dueRow("twelve of twelve: 2 by 4096", x, 1, 2048);
    }

    private static void lotOfAsMany() {
        ClayDisc x = disc("abcdef", 1, 0, 1, 2);
        x.lot();
        Check.dueRow("1 of 2: all ways", x, 1, 1);
        x.over(3, 2);
        x.lot();
        Check.dueRow("2 of 3: all ways", x, 1, 1);
        x.over(4, 3);
        x.lot();
        Check.dueRow("3 of 4: 10 by 16", x, 5, 8);
    }

    private static void mendOfNoRing() {
        ClayDisc x = new ClayDisc();
        Check.due("no DISC", x.mend(), 0);
        Check.dueRow("no DISC", x, 0);
        x = disc(places(14));
        for (int p = 0; p < 12; p++) {
            x.over(p, p + 1);
        }
        Check.due("a chain of twelve", x.mend(), 0);
        Check.dueRow("a chain of twelve", x, 0);
        Check.due("OVERS stay", x.count(9), 12);
    }

    private static void mendTheLeastOfAsFew() {
        ClayDisc x = disc("abcd", 0, 1, 1, 0);
        Check.due("either", x.mend(), 1);
        Check.dueRow("the first is the least", x, 1);
        x = disc("abcd", 2, 3, 0, 1, 1, 0);
        Check.due("not the one beside", x.mend(), 1);
        Check.dueRow("not the one beside", x, 2);
        // The last OVER is in both rings: it alone mends them.
        x = disc("abcd", 1, 0, 2, 1, 3, 0, 2, 3, 0, 2);
        Check.due("one for two rings", x.mend(), 1);
        Check.dueRow("one for two rings", x, 16);
        Check.due("OVERS stay", x.count(9), 5);
        // 1 with 4, 2 with 3, 2 with 4: 12 is the least as bits, though 1 with 4 begins ahead of it.
        x = disc("abc", 1, 0, 2, 0, 0, 2, 1, 2, 2, 1);
        Check.due("2 with 3", x.mend(), 2);
        Check.dueRow("2 with 3", x, 12);
    }

    private static void mendOfTwelve() {
        ClayDisc x = new ClayDisc();
        ring(12, 12).tell(x);
        Check.due("a ring of twelve", x.mend(), 1);
        Check.dueRow("a ring of twelve", x, 1);
        x = disc("abcd");
        for (int p = 0; p < 4; p++) {
            for (int q = 0; q < 4; q++) {
                x.over(p, q);
            }
        }
        Check.due("all twelve of four PLACES", x.count(9), 12);
        // One of each of the six pairs: bits in order 01 02 03 10 12 13 20 21 23 30 31 32 (behind, ahead).
        Check.due("one of each pair", x.mend(), 6);
        // The first of each pair, 0 behind 1, 2, 3, 1 behind 2, 3, 2 behind 3: bits 0, 1, 2, 4, 5, 8.
        Check.dueRow("the first of each pair", x, 1 + 2 + 4 + 16 + 32 + 256);
        x = disc(places(12));
        for (int p = 0; p < 12; p += 2) {
            x.over(p, p + 1);
            x.over(p + 1, p);
        }
        Check.due("six rings", x.mend(), 6);
        Check.dueRow("six rings", x, 0b010101010101);
    }
}
