/** Promises 35 to 44: claims. */
public final class ClaimsTest {
    public static void main(String[] args) {
        claims();
        sheets();
        standing();
        risks();
        seeks();
        parts();
        plans();
        Check.over("claims");
    }

    /** A claim for each text, whose signs 0, 1, 2 are what it says of finds 0, 1, .. */
    private static ClayDisc told(String... claims) {
        ClayDisc x = new ClayDisc();
        for (String claim : claims) {
            int c = x.claim();
            for (int f = 0; f < claim.length(); f++) {
                x.says(c, f, claim.charAt(f) - '0');
            }
        }
        return x;
    }

    private static void claims() {
        ClayDisc x = new ClayDisc();
        Check.due("no claim", x.says(0, 0, 1), -1);
        for (int i = 0; i < 10; i++) {
            Check.due("claim", x.claim(), i);
        }
        Check.due("an eleventh", x.claim(), -1);
        Check.due("claims", x.count(10), 10);
        Check.due("says", x.says(9, 11, 2), 0);
        Check.due("what it was", x.says(9, 11, 1), 2);
        Check.due("nothing again", x.says(9, 11, 0), 1);
        Check.due("claim 10", x.says(10, 0, 0), -1);
        Check.due("claim -1", x.says(-1, 0, 0), -1);
        Check.due("find 12", x.says(0, 12, 0), -1);
        Check.due("find -1", x.says(0, -1, 0), -1);
        Check.due("v 3", x.says(0, 0, 3), -1);
        Check.due("v -1", x.says(0, 0, -1), -1);
        Check.due("find", x.find(0, 1), 0);
        Check.due("find, what it was", x.find(0, 2), 1);
        Check.due("find, unknown again", x.find(0, 0), 2);
        Check.due("the last find", x.find(11, 1), 0);
        Check.due("find 12", x.find(12, 0), -1);
        Check.due("find -1", x.find(-1, 0), -1);
        Check.due("find v 3", x.find(0, 3), -1);
        Check.due("find v -1", x.find(0, -1), -1);
    }

    private static void dueSaid(String call, ClayDisc x, int claim, int... want) {
        for (int f = 0; f < 12; f++) {
            int v = x.says(claim, f, 0);
            x.says(claim, f, v);
            Check.due(call + ": of find " + f, v, f < want.length ? want[f] : 0);
        }
    }

    private static void sheets() {
        ClayDisc x = told("111111111111", "2");
        Check.due("ints", x.sheet(0, 2, 4, -4, 3), 4);
        // -4, -1, 2, 5: 2 each.
        dueSaid("ints", x, 0, 2, 2, 2, 2);
        Check.due("ints that go round", x.sheet(0, 2, 2, Integer.MAX_VALUE, 1), 2);
        // 2147483647 is 1 by 3, -2147483648 is 1 by 3 as well.
        dueSaid("ints that go round", x, 0, 1, 1);
        Check.due("bytes", x.sheet(0, 0, 5, 126, 1), 3);
        // 126, 127, -128, -127, -126: 0, 1, 1, 2, 0.
        dueSaid("bytes", x, 0, 0, 1, 1, 2, 0);
        Check.due("bytes with step 256", x.sheet(0, 0, 3, 1, 256), 3);
        dueSaid("bytes with step 256", x, 0, 1, 1, 1);
        Check.due("shorts", x.sheet(0, 1, 3, 32767, 1), 3);
        // 32767, -32768, -32767: 1, 1, 2.
        dueSaid("shorts", x, 0, 1, 1, 2);
        Check.due("n 12", x.sheet(0, 2, 12, 1, 0), 12);
        Check.due("n below 0", x.sheet(0, 0, -1, 1, 1), -2);
        Check.due("n far below 0", x.sheet(0, 2, Integer.MIN_VALUE, 1, 1), -2);
        Check.due("n above 12", x.sheet(0, 2, 13, 1, 1), -1);
        Check.due("n above 12 of a missing one", x.sheet(0, 3, 13, 1, 1), -1);
        Check.due("kind 4", x.sheet(0, 4, 1, 1, 1), -1);
        Check.due("kind 4, n below 0", x.sheet(0, 4, -1, 1, 1), -1);
        Check.due("kind -1", x.sheet(0, -1, 1, 1, 1), -1);
        Check.due("claim 2", x.sheet(2, 0, -1, 1, 1), -1);
        Check.due("claim -1", x.sheet(-1, 3, 1, 1, 1), -1);
        dueSaid("nothing changed", x, 0, 1, 1, 1, 1, 1, 1, 1, 1, 1, 1, 1, 1);
        Check.due("missing, n below 0", x.sheet(0, 3, -7, 1, 1), -3);
        dueSaid("missing", x, 0);
        dueSaid("the other one stays", x, 1, 2);
        Check.due("n 0", x.sheet(1, 1, 0, 1, 1), 0);
        dueSaid("n 0", x, 1);
    }

    private static void standing() {
        ClayDisc x = new ClayDisc();
        Check.due("none", x.stand(), 0);
        Check.due("none idle", x.idle(), 0);
        x = told("1", "2", "0", "01");
        Check.due("all", x.stand(), 15);
        Check.due("idle", x.idle(), 4);
        x.find(0, 1);
        Check.due("made", x.stand(), 13);
        Check.due("what is known can throw out nothing more", x.idle(), 5);
        x.find(0, 2);
        Check.due("found not to be", x.stand(), 14);
        Check.due("one that is thrown out is not idle", x.idle(), 6);
        x.find(0, 0);
        Check.due("unknown again", x.stand(), 15);
        x.find(1, 2);
        Check.due("find 1", x.stand(), 7);
    }

    private static void risks() {
        ClayDisc x = told("1201", "1102", "0201");
        Check.due("risks", x.risks(0), 3);
        Check.dueRow("all are said by others too", x, 0);
        Check.due("risks", x.risks(1), 3);
        Check.dueRow("alone in 1 and 3", x, 2 + 8);
        x.find(1, 1);
        // Claims 0 and 2 fall.
        Check.due("one that has fallen", x.risks(0), 2);
        Check.dueRow("alone in 3", x, 8);
        Check.due("no one else stands", x.risks(1), 2);
        Check.dueRow("no one else stands", x, 1 + 8);
        Check.due("claim 3", x.risks(3), -1);
        Check.due("claim -1", x.risks(-1), -1);
        Check.dueRow("the ROW stays", x, 1 + 8);
    }

    private static void seeks() {
        ClayDisc x = new ClayDisc();
        Check.due("no claims", x.seek(), -1);
        x = told("100", "110", "120", "122");
        // Find 0: 4 or 0; find 1: 2 or 3; find 2: 3 or 4.
        Check.due("seek", x.seek(), 1);
        Check.dueRow("seek", x, 3);
        x.find(1, 2);
        // Claim 1 falls: find 0: 3 or 0; find 2: 2 or 3; find 3: 3.
        Check.due("the first of equal ones", x.seek(), 0);
        Check.dueRow("the first of equal ones", x, 3);
        for (int f = 0; f < 12; f++) {
            x.find(f, 1);
        }
        Check.due("none unknown", x.seek(), -2);
        Check.dueRow("the ROW stays", x, 3);
        x.says(0, 5, 2);
        x.says(1, 5, 2);
        x.says(2, 5, 2);
        x.says(3, 5, 2);
        Check.due("none stands", x.seek(), -1);
        x = told("", "");
        Check.due("nothing is said: the first", x.seek(), 0);
        Check.dueRow("nothing is said", x, 2);
    }

    private static void parts() {
        ClayDisc x = new ClayDisc();
        Check.due("no pairs", x.part(), 0);
        Check.dueRow("no pairs", x, 0);
        x = told("0111", "0121", "0112", "0122");
        Check.due("two needed", x.part(), 2);
        Check.dueRow("two needed", x, 4 + 8);
        x = told("0111", "0211", "0222");
        // 1 parts 0 from the others, 2 and 3 part the last two: the least of two.
        Check.due("of as few the least", x.part(), 2);
        Check.dueRow("of as few the least", x, 2 + 4);
        x.find(2, 1);
        Check.due("claim 2 falls", x.part(), 1);
        Check.dueRow("claim 2 falls", x, 2);
        x.find(2, 0);
        x.find(1, 2);
        Check.due("claim 0 falls", x.part(), 1);
        Check.dueRow("claim 0 falls", x, 4);
        x = told("1", "0");
        x.kinds();
        Check.due("nothing said parts nothing", x.part(), -2);
        Check.due("the ROW stays", x.count(11), 13);
        x = told("12", "11");
        x.find(1, 1);
        Check.due("one stands alone", x.part(), 0);
        Check.dueRow("one stands alone", x, 0);
    }

    private static void plans() {
        ClayDisc x = new ClayDisc();
        Check.due("no claims", x.plan(), 0);
        x = told("1", "0");
        Check.due("can't be parted", x.plan(), 0);
        x = told("1", "2");
        Check.due("one", x.plan(), 1);
        x.find(0, 1);
        Check.due("one has fallen", x.plan(), 0);
        x = told("11", "12", "21", "22");
        Check.due("two by two", x.plan(), 2);
        // Told by the first, one of two others is looked for: three FINDS part all, two at worst are needed.
        x = told("110", "120", "201", "202");
        Check.due("told by the first: plan", x.plan(), 2);
        Check.due("told by the first: part", x.part(), 3);
        x = told("1000", "2100", "2210", "2221", "2222");
        // Each find parts those that speak of it into one and the rest: but the first claim keeps silent of others.
        Check.due("one behind the other", x.plan(), 4);
        x = told("100000000000", "200000000000");
        for (int f = 1; f < 8; f++) {
            x.says(0, f, 1);
        }
        Check.due("8 are spoken of", x.plan(), 1);
        x.says(1, 8, 1);
        Check.due("9 are spoken of", x.plan(), -3);
        x.find(8, 1);
        Check.due("one of them is known", x.plan(), 1);
        x.find(8, 2);
        Check.due("and throws one out", x.plan(), 0);
        x.find(8, 0);
        x.find(0, 1);
        Check.due("the first is known", x.plan(), 0);
        x.find(0, 2);
        // Claim 0 falls, so that find 8 alone is spoken of by one that stands.
        Check.due("one that has fallen does not count", x.plan(), 0);
        x = told("1111111110", "1111111120");
        x.find(0, 1);
        Check.due("8 unknown, the first is known", x.plan(), 1);
    }
}
