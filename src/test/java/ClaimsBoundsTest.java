import java.util.Arrays;

/** Promises 35 to 44, and what the terms say of CLAIMS and FINDS: each sentence that names a bound, at it and past it. */
public final class ClaimsBoundsTest {
    public static void main(String[] args) {
        claimsUpToTen();
        saysOfClaimsThatThereAre();
        saysOfFinds0To11();
        says0To2();
        saysWhatItWas();
        sheetRefusedFirst();
        sheetOfNBelow0();
        sheetMissing();
        sheetOfNoneToTwelve();
        sheetOfBytes();
        sheetOfShorts();
        sheetOfInts();
        sheetOfRestsBelow0();
        sheetOfStepsThatGoRound();
        findOfFinds0To11();
        find0To2();
        standOfNoneAndOfTen();
        standThrownOut();
        risksOfClaimsThatThereAre();
        risksOfUnknownFindsAlone();
        risksThatNoOtherSaysAlike();
        idleOfNoneAndOfTen();
        idleThatStand();
        seekOfNoneThatStands();
        seekOfNoUnknownFind();
        seekTheFirstOfEqualOnes();
        partOfNoPair();
        partOfThoseThatStand();
        partThatAllOfThemDoNot();
        partTheLeastOfAsFew();
        partOfTenClaims();
        partOfAllFinds();
        planOfNoPair();
        planOf8And9Finds();
        planOfSpokenFindsAlone();
        planToldByTheOnesAhead();
        planOfTenClaims();
        Check.over("bounds of claims");
    }

    private static final int[] FAR = {Integer.MIN_VALUE, Integer.MAX_VALUE};
    private static final String SILENT = "000000000000";

    /** A claim for each text, whose signs 0, 1, 2 are what it says of finds 0, 1, .. */
    private static void tell(ClayDisc x, String... claims) {
        for (String claim : claims) {
            int c = x.claim();
            for (int f = 0; f < claim.length(); f++) {
                x.says(c, f, claim.charAt(f) - '0');
            }
        }
    }

    private static ClayDisc told(String... claims) {
        ClayDisc x = new ClayDisc();
        tell(x, claims);
        return x;
    }

    private static Twins.Telling telling(String... claims) {
        return x -> {
            tell(x, claims);
            x.kinds();
        };
    }

    private static String[] ten(String claim) {
        String[] all = new String[10];
        Arrays.fill(all, claim);
        return all;
    }

    private static void allFinds(ClayDisc x, int v) {
        for (int find = 0; find < 12; find++) {
            x.find(find, v);
        }
    }

    private static void dueSaid(String call, ClayDisc x, int claim, String want) {
        for (int find = 0; find < 12; find++) {
            int v = x.says(claim, find, 0);
            x.says(claim, find, v);
            Check.due(call + ": claim " + claim + " of find " + find, v, find < want.length() ? want.charAt(find) - '0' : 0);
        }
    }

    private static void claimsUpToTen() {
        ClayDisc x = new ClayDisc();
        for (int i = 0; i < 10; i++) {
            Check.due("claim", x.claim(), i);
            Check.due("claims", x.count(10), i + 1);
        }
        for (int i = 0; i < 10; i++) {
            dueSaid("nothing at first", x, i, SILENT);
        }
        Twins.refused("an eleventh", telling(ten("1202")), ClayDisc::claim);
        Twins.refused("a twelfth", y -> {
            tell(y, ten("0211"));
            y.claim();
        }, ClayDisc::claim);
    }

    private static void saysOfClaimsThatThereAre() {
        Twins.refused("no CLAIM", x -> x.kinds(), x -> x.says(0, 0, 1));
        for (int claim : new int[] {-1, 3, 9, 10, FAR[0], FAR[1]}) {
            for (int v = 0; v <= 2; v++) {
                int value = v;
                Twins.refused("CLAIM " + claim + " of 3", Twins::rich, x -> x.says(claim, 0, value));
            }
        }
        Twins.refused("CLAIM 10 of 10", telling(ten("1")), x -> x.says(10, 0, 2));
        ClayDisc x = told(ten("1"));
        Check.due("CLAIM 0 of 10", x.says(0, 0, 2), 1);
        Check.due("CLAIM 9 of 10", x.says(9, 0, 2), 1);
        Check.due("CLAIM 9 of 10", x.says(9, 0, 2), 2);
    }

    private static void saysOfFinds0To11() {
        for (int find : new int[] {-1, 12, FAR[0], FAR[1]}) {
            Twins.refused("FIND " + find, Twins::rich, x -> x.says(0, find, 1));
        }
        ClayDisc x = told("");
        for (int find = 0; find < 12; find++) {
            Check.due("FIND " + find, x.says(0, find, 1 + find % 2), 0);
        }
        dueSaid("all twelve", x, 0, "121212121212");
    }

    private static void says0To2() {
        for (int v : new int[] {-1, 3, 4, FAR[0], FAR[1]}) {
            Twins.refused("says " + v, Twins::rich, x -> x.says(0, 0, v));
            Twins.refused("says " + v + " of the last FIND", Twins::rich, x -> x.says(2, 11, v));
        }
        Twins.refused("all three are others", Twins::rich, x -> x.says(3, 12, 3));
    }

    private static void saysWhatItWas() {
        for (int was = 0; was <= 2; was++) {
            for (int v = 0; v <= 2; v++) {
                ClayDisc x = told("", "", "");
                x.kinds();
                x.says(1, 5, was);
                Check.due("what it was", x.says(1, 5, v), was);
                Check.due("what it became", x.says(1, 5, v), v);
                dueSaid("the others stay", x, 0, SILENT);
                dueSaid("the others stay", x, 1, "00000" + v);
                dueSaid("the others stay", x, 2, SILENT);
                Check.due("says has no ROW", x.count(11), 13);
            }
        }
    }

    private static void sheetRefused(int claim, int kind, int n) {
        Twins.refused("sheet of CLAIM " + claim + ", kind " + kind + ", n " + n, Twins::rich, x -> x.sheet(claim, kind, n, 1, 1));
    }

    private static void sheetRefusedFirst() {
        int[] ns = {FAR[0], -1, 0, 12, 13, FAR[1]};
        for (int n : ns) {
            for (int kind = 0; kind <= 3; kind++) {
                for (int claim : new int[] {-1, 3, 10, FAR[0], FAR[1]}) {
                    sheetRefused(claim, kind, n);
                }
            }
            for (int kind : new int[] {-1, 4, FAR[0], FAR[1]}) {
                sheetRefused(0, kind, n);
            }
        }
        for (int kind = 0; kind <= 3; kind++) {
            for (int n : new int[] {13, 14, FAR[1]}) {
                sheetRefused(2, kind, n);
            }
        }
        Twins.refused("no CLAIM", x -> x.kinds(), x -> x.sheet(0, 3, 0, 1, 1));
    }

    private static void sheetOfNBelow0() {
        for (int kind = 0; kind <= 2; kind++) {
            for (int n : new int[] {-1, -12, FAR[0]}) {
                int which = kind;
                Twins.unchanged("n " + n + " of kind " + kind, -2, Twins::rich, x -> x.sheet(1, which, n, 1, 1));
            }
        }
    }

    private static void sheetMissing() {
        for (int n : new int[] {FAR[0], -1, 0, 1, 12}) {
            ClayDisc x = told(ten("121212121212"));
            x.kinds();
            Check.due("missing, n " + n, x.sheet(4, 3, n, 1, 1), -3);
            dueSaid("0 of all", x, 4, SILENT);
            dueSaid("the others stay", x, 3, "121212121212");
            dueSaid("the others stay", x, 5, "121212121212");
            Check.due("sheet has no ROW", x.count(11), 13);
            Check.due("CLAIMS stay", x.count(10), 10);
        }
        ClayDisc x = told(ten("121212121212"));
        Check.due("missing, n 13", x.sheet(4, 3, 13, 1, 1), -1);
        dueSaid("nothing changes", x, 4, "121212121212");
    }

    private static void sheetIs(int kind, int n, int f, int step, String due) {
        String call = "sheet of kind " + kind + ", n " + n + ", " + f + " and " + step;
        ClayDisc x = told(ten("212121212121"));
        Check.due(call, x.sheet(9, kind, n, f, step), due.replace("0", "").length());
        dueSaid(call, x, 9, due);
        dueSaid("the others stay", x, 8, "212121212121");
    }

    private static void sheetOfNoneToTwelve() {
        for (int kind = 0; kind <= 2; kind++) {
            sheetIs(kind, 0, 1, 1, "");
            sheetIs(kind, 1, 1, 1, "1");
            sheetIs(kind, 2, 1, 1, "12");
            sheetIs(kind, 3, 0, 0, "000");
            sheetIs(kind, 11, 1, 1, "12012012012");
            sheetIs(kind, 12, 1, 1, "120120120120");
            sheetIs(kind, 12, 2, 0, "222222222222");
        }
    }

    private static void sheetOfBytes() {
        // 127, -128, -127, -126, -125, -124.
        sheetIs(0, 6, 127, 1, "112012");
        // -128, 127, 126, 125.
        sheetIs(0, 4, -128, -1, "1102");
        // -1, 0, 1 of 255, 256, 257.
        sheetIs(0, 3, 255, 1, "201");
        sheetIs(0, 12, 1, 256, "111111111111");
        // -1 and 0 of the greatest int and the least.
        sheetIs(0, 2, Integer.MAX_VALUE, 1, "20");
    }

    private static void sheetOfShorts() {
        // 127, 128, 129.
        sheetIs(1, 3, 127, 1, "120");
        // 32767, -32768, -32767, -32766.
        sheetIs(1, 4, 32767, 1, "1120");
        // -32768, 32767, 32766.
        sheetIs(1, 3, -32768, -1, "110");
        // -1, 0, 1 of 65535, 65536, 65537.
        sheetIs(1, 3, 65535, 1, "201");
        sheetIs(1, 12, 2, 65536, "222222222222");
        sheetIs(1, 2, Integer.MAX_VALUE, 1, "20");
    }

    private static void sheetOfInts() {
        sheetIs(2, 3, 127, 1, "120");
        sheetIs(2, 3, 32767, 1, "120");
        // 65535, 65536, 65537.
        sheetIs(2, 3, 65535, 1, "012");
        // 2147483647, -2147483648, -2147483647, -2147483646.
        sheetIs(2, 4, Integer.MAX_VALUE, 1, "1120");
        sheetIs(2, 3, Integer.MIN_VALUE, -1, "110");
    }

    private static void sheetOfRestsBelow0() {
        for (int kind = 0; kind <= 2; kind++) {
            sheetIs(kind, 12, -1, -1, "210210210210");
            sheetIs(kind, 6, -3, 1, "012012");
            sheetIs(kind, 4, -3, -3, "0000");
        }
    }

    private static void sheetOfStepsThatGoRound() {
        // 0 and -2147483648 by turns.
        sheetIs(2, 12, 0, Integer.MIN_VALUE, "010101010101");
        // 1, -2147483648, -1, 2147483646, -3, 2147483644.
        sheetIs(2, 6, 1, Integer.MAX_VALUE, "112001");
        sheetIs(0, 3, 0, Integer.MIN_VALUE, "000");
        sheetIs(1, 4, 0, Integer.MAX_VALUE, "0210");
    }

    private static void findOfFinds0To11() {
        for (int find : new int[] {-1, 12, FAR[0], FAR[1]}) {
            for (int v = 0; v <= 2; v++) {
                int value = v;
                Twins.refused("find " + find, Twins::rich, x -> x.find(find, value));
            }
        }
        ClayDisc x = new ClayDisc();
        for (int find = 0; find < 12; find++) {
            Check.due("unknown at first", x.find(find, 1 + find % 2), 0);
        }
        for (int find = 0; find < 12; find++) {
            Check.due("what it was", x.find(find, 0), 1 + find % 2);
        }
    }

    private static void find0To2() {
        for (int v : new int[] {-1, 3, FAR[0], FAR[1]}) {
            Twins.refused("find becomes " + v, Twins::rich, x -> x.find(0, v));
            Twins.refused("a known one becomes " + v, Twins::rich, x -> x.find(11, v));
        }
        for (int was = 0; was <= 2; was++) {
            for (int v = 0; v <= 2; v++) {
                ClayDisc x = new ClayDisc();
                x.kinds();
                x.find(11, was);
                Check.due("what it was", x.find(11, v), was);
                Check.due("what it became", x.find(11, 0), v);
                Check.due("find has no ROW", x.count(11), 13);
            }
        }
    }

    private static void standOfNoneAndOfTen() {
        Twins.unchanged("no CLAIMS", 0, x -> x.kinds(), ClayDisc::stand);
        ClayDisc x = told(ten("1"));
        Check.due("ten", x.stand(), 1023);
        x.find(0, 2);
        Check.due("none of ten", x.stand(), 0);
        x.says(9, 0, 2);
        Check.due("the last one", x.stand(), 512);
        x.find(0, 1);
        Check.due("all but the last", x.stand(), 511);
        Twins.unchanged("stand has no ROW", 7, telling("1", "2", "0"), ClayDisc::stand);
    }

    private static void standThrownOut() {
        for (int find : new int[] {0, 11}) {
            for (int said = 0; said <= 2; said++) {
                for (int v = 0; v <= 2; v++) {
                    ClayDisc x = told("", "");
                    x.says(1, find, said);
                    x.find(find, v);
                    boolean thrownOut = said == 1 && v == 2 || said == 2 && v == 1;
                    Check.due("says " + said + ", is " + v, x.stand(), thrownOut ? 1 : 3);
                }
            }
        }
        ClayDisc x = told("112222222222", "221111111111");
        x.find(0, 1);
        x.find(11, 2);
        Check.due("one FIND throws out, another does not", x.stand(), 1);
        x.find(5, 1);
        Check.due("one of many throws out", x.stand(), 0);
    }

    private static void risksOfClaimsThatThereAre() {
        for (int claim : new int[] {-1, 3, 10, FAR[0], FAR[1]}) {
            Twins.refused("risks of CLAIM " + claim + " of 3", Twins::rich, x -> x.risks(claim));
        }
        Twins.refused("risks of no CLAIM", x -> x.kinds(), x -> x.risks(0));
        Twins.refused("risks of CLAIM 10 of 10", telling(ten("12")), x -> x.risks(10));
        ClayDisc x = told(ten("12"));
        x.says(9, 11, 1);
        Check.due("CLAIM 9 of 10", x.risks(9), 3);
        Check.dueRow("CLAIM 9 of 10", x, 2048);
        Check.due("CLAIM 0 of 10", x.risks(0), 2);
        Check.dueRow("CLAIM 0 of 10", x, 0);
    }

    private static void risksOfUnknownFindsAlone() {
        ClayDisc x = told("121212121212", "");
        Check.due("all twelve", x.risks(0), 12);
        Check.dueRow("all twelve", x, 4095);
        Check.due("none", x.risks(1), 0);
        Check.dueRow("none", x, 0);
        x.find(0, 1);
        x.find(11, 2);
        Check.due("two are known", x.risks(0), 10);
        Check.dueRow("two are known", x, 4095 - 1 - 2048);
        x.find(11, 1);
        Check.due("one that has been thrown out", x.risks(0), 10);
        Check.dueRow("one that has been thrown out", x, 4095 - 1 - 2048);
        allFinds(x, 1);
        Check.due("all are known", x.risks(0), 0);
        Check.dueRow("all are known", x, 0);
        x.find(11, 0);
        Check.due("the last is unknown", x.risks(0), 1);
        Check.dueRow("the last is unknown", x, 2048);
    }

    private static void risksThatNoOtherSaysAlike() {
        ClayDisc x = told("111", "121", "101");
        Check.due("of three", x.risks(0), 3);
        Check.dueRow("the other way or nothing is not alike", x, 2);
        x = told("11", "11", "012");
        x.find(2, 1);
        Check.dueRow("no ROW yet", x);
        Check.due("of two", x.risks(0), 2);
        Check.dueRow("the other one says both alike", x, 0);
        x.says(1, 2, 2);
        Check.due("of one that stands", x.risks(0), 2);
        Check.dueRow("those that do not stand do not count", x, 3);
        Check.due("of one that does not stand", x.risks(1), 2);
        Check.dueRow("of one that does not stand", x, 0);
    }

    private static void idleOfNoneAndOfTen() {
        Twins.unchanged("no CLAIMS", 0, x -> x.kinds(), ClayDisc::idle);
        Check.due("ten that say nothing", told(ten("")).idle(), 1023);
        Check.due("ten that say something", told(ten("000000000002")).idle(), 0);
        Check.due("the last one", told("1", "2", "").idle(), 4);
        Twins.unchanged("idle has no ROW", 4, telling("1", "2", "0"), ClayDisc::idle);
    }

    private static void idleThatStand() {
        ClayDisc x = told("1", "2", "01", "02", "");
        x.find(0, 1);
        Check.due("the first is known: CLAIM 1 is thrown out", x.idle(), 1 + 16);
        x.find(0, 2);
        Check.due("CLAIM 0 is thrown out", x.idle(), 2 + 16);
        x.find(1, 1);
        Check.due("CLAIMS 0, 3 are thrown out", x.idle(), 2 + 4 + 16);
        x.find(0, 0);
        Check.due("the first is unknown again", x.idle(), 4 + 16);
        x = told("121212121212");
        allFinds(x, 1);
        Check.due("thrown out, with no FIND unknown", x.idle(), 0);
        for (int find = 1; find < 12; find += 2) {
            x.find(find, 2);
        }
        Check.due("nothing could throw it out any more", x.idle(), 1);
        x.find(11, 0);
        Check.due("the last one could", x.idle(), 0);
    }

    private static void seekOfNoneThatStands() {
        Twins.refused("no CLAIMS", x -> x.kinds(), ClayDisc::seek);
        Twins.Telling thrownOut = x -> {
            tell(x, "1", "1");
            x.find(0, 2);
            x.kinds();
        };
        Twins.refused("none stands", thrownOut, ClayDisc::seek);
        Twins.refused("none stands, no FIND is unknown", x -> {
            tell(x, "1", "1");
            allFinds(x, 2);
            x.kinds();
        }, ClayDisc::seek);
        ClayDisc x = new ClayDisc();
        thrownOut.tell(x);
        x.says(1, 0, 0);
        Check.due("one stands", x.seek(), 1);
        Check.dueRow("one stands", x, 1);
    }

    private static void seekOfNoUnknownFind() {
        Twins.unchanged("no FIND is unknown", -2, x -> {
            tell(x, "1", "2");
            allFinds(x, 1);
            x.kinds();
        }, ClayDisc::seek);
        ClayDisc x = told("1", "2", "1");
        allFinds(x, 1);
        x.find(11, 0);
        Check.due("the last alone is unknown", x.seek(), 11);
        Check.dueRow("those that stand", x, 2);
    }

    private static void seekTheFirstOfEqualOnes() {
        ClayDisc x = told("000000000011", "000000000022");
        Check.due("FINDS 10 and 11 leave one", x.seek(), 10);
        Check.dueRow("FINDS 10 and 11 leave one", x, 1);
        x.says(0, 10, 0);
        Check.due("of FIND 10 one says nothing", x.seek(), 11);
        Check.dueRow("of FIND 10 one says nothing", x, 1);
        x.says(0, 11, 2);
        Check.due("none at best, both at worst", x.seek(), 0);
        Check.dueRow("none at best, both at worst", x, 2);
        x = told("11", "11", "21", "22");
        Check.due("half of them", x.seek(), 0);
        Check.dueRow("half of them", x, 2);
        x.find(0, 1);
        Check.due("the first is known", x.seek(), 1);
        Check.dueRow("two stand, and say it alike", x, 2);
        x = told(ten("1"));
        Check.due("ten", x.seek(), 0);
        Check.dueRow("ten", x, 10);
    }

    private static void partOfNoPair() {
        ClayDisc x = new ClayDisc();
        Check.due("no CLAIMS", x.part(), 0);
        Check.dueRow("no CLAIMS", x, 0);
        x = told("12");
        Check.due("one CLAIM", x.part(), 0);
        Check.dueRow("one CLAIM", x, 0);
        x = told("12", "11");
        Check.due("two CLAIMS", x.part(), 1);
        Check.dueRow("two CLAIMS", x, 2);
        x.find(1, 2);
        Check.due("one stands", x.part(), 0);
        Check.dueRow("one stands", x, 0);
        x.find(0, 2);
        Check.due("none stands", x.part(), 0);
        Check.dueRow("none stands", x, 0);
    }

    private static void partOfThoseThatStand() {
        ClayDisc x = told("11", "12", "22", "22");
        Check.due("two are alike", x.part(), -2);
        x.find(0, 1);
        Check.due("these are thrown out", x.part(), 1);
        Check.dueRow("these are thrown out", x, 2);
        allFinds(x, 1);
        Check.due("no FIND is unknown, one stands", x.part(), 0);
        Check.dueRow("no FIND is unknown, one stands", x, 0);
        x = told("11", "11");
        allFinds(x, 1);
        Check.due("no FIND is unknown, two stand", x.part(), -2);
    }

    private static void partThatAllOfThemDoNot() {
        Twins.unchanged("both say the same", -2, telling("121212121212", "121212121212"), ClayDisc::part);
        Twins.unchanged("1 and nothing", -2, telling("111111111111", SILENT), ClayDisc::part);
        Twins.unchanged("2 and nothing", -2, telling("222222222222", SILENT), ClayDisc::part);
        Twins.unchanged("both say nothing", -2, telling(SILENT, SILENT), ClayDisc::part);
        Twins.unchanged("one pair of three", -2, telling("1", "2", "02"), ClayDisc::part);
        ClayDisc x = told("121212121212", "121212121211");
        Check.due("the last FIND alone", x.part(), 1);
        Check.dueRow("the last FIND alone", x, 2048);
        x = told("1", "2", "02");
        x.says(0, 1, 1);
        x.says(1, 2, 1);
        x.says(2, 2, 2);
        Check.due("all three pairs", x.part(), 3);
        Check.dueRow("all three pairs", x, 7);
    }

    private static void partTheLeastOfAsFew() {
        ClayDisc x = told("111111111111", "222222222222");
        Check.due("all twelve would do", x.part(), 1);
        Check.dueRow("the first is the least", x, 1);
        x.says(0, 0, 0);
        Check.due("the first does not", x.part(), 1);
        Check.dueRow("the second is the least", x, 2);
        // FINDS 10 and 11 part all; 0, 1 and 2 do so too, and are less as bits, but are more.
        x = told("100000000011", "210000000012", "221000000021", "222000000022");
        Check.due("few ahead of least", x.part(), 2);
        Check.dueRow("few ahead of least", x, 1024 + 2048);
        // 0 with 3, 1 with 2, 1 with 3, 2 with 3: 6 is the least as bits, though 0 with 3 begins ahead of it.
        x = told("1111", "2201", "0122");
        Check.due("1 with 2", x.part(), 2);
        Check.dueRow("1 with 2", x, 6);
    }

    /** Claim c says 1 of one find, 2 of all ahead of it from a first one on: each find parts one claim from those behind. */
    private static String[] chain(int claims, int from, int finds) {
        String[] all = new String[claims];
        for (int c = 0; c < claims; c++) {
            StringBuilder text = new StringBuilder("0".repeat(from));
            for (int f = 0; f < finds; f++) {
                text.append(f < c ? '2' : f == c ? '1' : '0');
            }
            all[c] = text.toString();
        }
        return all;
    }

    /** Claim c says of four finds what its four bits are. */
    private static String[] bits(int from) {
        String[] all = new String[10];
        for (int c = 0; c < 10; c++) {
            StringBuilder text = new StringBuilder("0".repeat(from));
            for (int f = 0; f < 4; f++) {
                text.append(1 + (c >> f & 1));
            }
            all[c] = text.toString();
        }
        return all;
    }

    private static void partOfTenClaims() {
        ClayDisc x = told(bits(0));
        Check.due("four bits", x.part(), 4);
        Check.dueRow("four bits", x, 15);
        x = told(bits(8));
        Check.due("four bits at the end", x.part(), 4);
        Check.dueRow("four bits at the end", x, 15 << 8);
        x = told(chain(10, 3, 9));
        Check.due("nine FINDS for ten CLAIMS", x.part(), 9);
        Check.dueRow("nine FINDS for ten CLAIMS", x, 511 << 3);
        x.says(9, 11, 0);
        Check.due("the last pair is not parted", x.part(), -2);
    }

    /** Six CLAIMS are 15 pairs: each FIND parts a pair, or two, that no other one does. */
    private static void partOfAllFinds() {
        int[][] parted = {{0, 1, 2}, {0, 3, 4}, {0, 5}, {1, 2, 3}, {1, 4}, {1, 5}, {2, 3}, {2, 4}, {2, 5}, {3, 4}, {3, 5}, {4, 5}};
        ClayDisc x = told("", "", "", "", "", "");
        for (int find = 0; find < 12; find++) {
            for (int i = 0; i < parted[find].length; i++) {
                x.says(parted[find][i], find, i == 0 ? 1 : 2);
            }
        }
        Check.due("all twelve FINDS", x.part(), 12);
        Check.dueRow("all twelve FINDS", x, 4095);
        x.says(5, 11, 1);
        Check.due("one pair is not parted any more", x.part(), -2);
        x.says(5, 11, 2);
        x.says(2, 11, 1);
        x.says(1, 11, 1);
        Check.due("the last FIND parts 5 from 1, 2 and 4", x.part(), 10);
        Check.dueRow("the last FIND parts 5 from 1, 2 and 4", x, 4095 - 32 - 256);
    }

    private static void planOfNoPair() {
        Twins.unchanged("no CLAIMS", 0, x -> x.kinds(), ClayDisc::plan);
        Twins.unchanged("one CLAIM", 0, telling("1212"), ClayDisc::plan);
        Twins.unchanged("two alike", 0, telling("1212", "1212"), ClayDisc::plan);
        Twins.unchanged("two silent", 0, telling("", ""), ClayDisc::plan);
        Twins.unchanged("two that can be parted: plan has no ROW", 1, telling("1212", "1211"), ClayDisc::plan);
        ClayDisc x = told("1212", "1211");
        x.find(0, 2);
        Check.due("none stands", x.plan(), 0);
    }

    private static void planOf8And9Finds() {
        String[] eight = {"000011111111", "000011111112"};
        Check.due("8 FINDS", told(eight).plan(), 1);
        String[] nine = {"000111111111", "000111111112"};
        Twins.unchanged("9 FINDS", -3, telling(nine), ClayDisc::plan);
        Twins.unchanged("12 FINDS", -3, telling("111111111111", "222222222222"), ClayDisc::plan);
        Check.due("8 FINDS of one CLAIM", told("11112222").plan(), 0);
        Check.due("9 FINDS of one CLAIM", told("111122221").plan(), -3);
        Check.due("4 and 4", told("1111", "00002222").plan(), 0);
        Check.due("4 and 5", told("1111", "000022222").plan(), -3);
        Check.due("4 and 5 with one of both", told("1111", "00011111").plan(), 0);
        Check.due("9 FINDS, said by the last of ten", told("1", "2", "", "", "", "", "", "", "", "111111111").plan(), -3);
    }

    private static void planOfSpokenFindsAlone() {
        ClayDisc x = told("111111111", "111111112");
        Check.due("9 FINDS", x.plan(), -3);
        x.find(0, 1);
        Check.due("8 of them unknown", x.plan(), 1);
        x.find(0, 2);
        Check.due("none stands", x.plan(), 0);
        x = told("111111111", "2", "02", "01");
        Check.due("9 FINDS", x.plan(), -3);
        x.find(0, 2);
        Check.due("what one that is thrown out says does not count", x.plan(), 1);
        x.find(0, 1);
        Check.due("8 unknown ones that stand", x.plan(), 1);
        x.says(2, 11, 1);
        Check.due("9 unknown ones that stand", x.plan(), -3);
        x.find(11, 2);
        Check.due("it is thrown out by the ninth", x.plan(), 0);
    }

    private static void planToldByTheOnesAhead() {
        ClayDisc x = told("110", "120", "201", "202");
        Check.due("the first tells which is looked for then", x.plan(), 2);
        Check.due("not told: all three", x.part(), 3);
        // A CLAIM that says nothing of a FIND stands whatever it is.
        x = told("1", "2", "01", "02");
        Check.due("two pairs beside one another", x.plan(), 2);
        Check.due("which are not parted from one another", x.part(), -2);
        x = told("12", "21");
        Check.due("one of two FINDS", x.plan(), 1);
    }

    private static void planOfTenClaims() {
        Check.due("four bits", told(bits(0)).plan(), 4);
        Check.due("four bits at the end", told(bits(8)).plan(), 4);
        Check.due("8 FINDS, one behind the other", told(chain(9, 0, 8)).plan(), 8);
        Check.due("8 FINDS, the last two alike", told(chain(10, 4, 8)).plan(), 8);
        Twins.unchanged("9 FINDS, one behind the other", -3, telling(chain(10, 0, 9)), ClayDisc::plan);
        Check.due("ten alike", told(ten("12121212")).plan(), 0);
    }
}
