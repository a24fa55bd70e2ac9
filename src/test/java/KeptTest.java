/** Promises 45 to 49: what is kept, counts, and the ROW. */
public final class KeptTest {
    public static void main(String[] args) {
        seeds();
        keeping();
        counts();
        rows();
        Check.over("kept");
    }

    private static void seeds() {
        ClayDisc x = new ClayDisc();
        Check.due("at first 1", x.seed(-9), 1);
        Check.due("what it was", x.seed(Integer.MIN_VALUE), -9);
        Check.due("what it was", x.seed(0), Integer.MIN_VALUE);
    }

    private static void keeping() {
        ClayDisc x = new ClayDisc();
        Check.due("again of nothing kept", x.again(0), false);
        Check.due("keep(-1)", x.keep(-1), false);
        Check.due("keep(3)", x.keep(3), false);
        Check.due("again(-1)", x.again(-1), false);
        Check.due("again(3)", x.again(3), false);
        Check.due("keep nothing told", x.keep(2), true);
        Check.disc(x, "ab-c");
        Check.laxness(x, "h3d2b");
        x.over(1, 0);
        x.find(3, 1);
        x.find(0, 2);
        x.find(11, 2);
        x.claim();
        x.says(0, 0, 1);
        Check.words(x, 1, "AB");
        Check.due("keep(0)", x.keep(0), true);
        Check.disc(x, "?defgh");
        Check.laxness(x, "h2d1");
        x.over(2, 3);
        x.over(3, 4);
        x.find(3, 2);
        x.find(4, 1);
        x.find(0, 0);
        x.find(11, 1);
        x.says(0, 0, 2);
        x.claim();
        x.seed(55);
        Check.words(x, 1, "CD");
        x.way();
        Check.tell(x, "zz");
        Check.due("again(1), nothing kept", x.again(1), false);
        Check.due("again(0)", x.again(0), true);
        int[] due = {2, 3, 0, 2, 0, 0, 3, 2, 1, 1, 2, 2, 2, 0};
        for (int what = 0; what < due.length; what++) {
            Check.due("behind again: count(" + what + ")", x.count(what), due[what]);
        }
        Check.due("the disc", x.at(2), 2);
        Check.due("the over", x.over(1, 0), -1);
        Check.due("other overs are gone", x.over(0, 1), 2);
        Check.due("find 3", x.find(3, 2), 1);
        Check.due("find 4", x.find(4, 2), 0);
        Check.due("find 0", x.find(0, 1), 2);
        Check.due("find 11", x.find(11, 1), 2);
        Check.due("claims are not kept", x.says(0, 0, 0), 2);
        Check.due("R is not kept", x.seed(1), 55);
        Check.due("what came behind changes nothing kept", x.again(0), true);
        Check.due("overs as kept", x.count(9), 1);
        Check.due("finds as kept", x.find(3, 0), 1);
        Check.due("again(2)", x.again(2), true);
        Check.due("no groups", x.count(0), 0);
        Check.due("no places", x.count(1), 0);
        Check.due("homes", x.count(6), 1);
        Check.due("back", x.count(8), 0);
        Check.due("find 3", x.find(3, 0), 0);
        Check.due("keep over what is kept", x.keep(0), true);
        Check.due("again(0)", x.again(0), true);
        Check.due("no groups now", x.count(0), 0);
    }

    private static void counts() {
        ClayDisc x = new ClayDisc();
        Check.words(x, 0, "A");
        Check.words(x, 1, "A", "B");
        Check.words(x, 2, "A", "B", "C");
        Check.words(x, 3, "A", "B", "C", "D");
        Check.disc(x, "ab-c-?");
        Check.laxness(x, "h2d1b");
        x.over(0, 1);
        x.over(1, 2);
        x.claim();
        x.kinds();
        x.readings(3);
        x.lot();
        Check.tell(x, "abcde");
        // ab: two-letter words there are none; no way to go on from the first group.
        int[] due = {3, 4, 1, 2, 3, 4, 2, 1, 1, 2, 1, 2, 5, 0};
        for (int what = 0; what < due.length; what++) {
            Check.due("count(" + what + ")", x.count(what), due[what]);
        }
        Check.due("count(-1)", x.count(-1), -1);
        Check.due("count(14)", x.count(14), -1);
        Check.due("count(max)", x.count(Integer.MAX_VALUE), -1);
        Check.due("count(min)", x.count(Integer.MIN_VALUE), -1);
    }

    private static void rows() {
        ClayDisc x = new ClayDisc();
        Check.dueNone("nothing told", () -> x.row(0));
        Check.disc(x, "aab");
        x.kinds();
        Check.due("row(0)", x.row(0), 2);
        Check.due("row(12)", x.row(12), 0);
        Check.dueNone("row(13)", () -> x.row(13));
        Check.dueNone("row(-1)", () -> x.row(-1));
        Check.dueNone("row(max)", () -> x.row(Integer.MAX_VALUE));
        Check.dueNone("row(min)", () -> x.row(Integer.MIN_VALUE));
        x.like();
        Check.due("the latest one alone", x.count(11), 2);
        Check.due("row(1)", x.row(1), 3);
        Check.dueNone("row(2)", () -> x.row(2));
        x.many();
        x.stand();
        x.ends(0);
        x.at(0);
        Check.dueRow("calls without a ROW leave it", x, 1, 3);
    }
}
