/** Promises 1 to 8: a new object, texts, and what is at a place. */
public final class TextsTest {
    public static void main(String[] args) {
        newObject();
        signs();
        discs();
        words();
        laxnesses();
        places();
        Check.over("texts");
    }

    private static void newObject() {
        ClayDisc x = new ClayDisc();
        int[] counts = {0, 0, 0, 0, 0, 0, 1, 0, 0, 0, 0, 0, 0, 0};
        for (int what = 0; what < counts.length; what++) {
            Check.due("new count(" + what + ")", x.count(what), counts[what]);
        }
        Check.due("new seed", x.seed(7), 1);
        Check.dueNone("new row(0)", () -> x.row(0));
        Check.dueNone("new at(0)", () -> x.at(0));
        Check.due("new stand", x.stand(), 0);
        for (int i = 0; i < 3; i++) {
            Check.due("new again", x.again(i), false);
        }
        for (int find = 0; find < 12; find++) {
            Check.due("new find", x.find(find, 0), 0);
        }
        Check.due("new mend", x.mend(), 0);
        Check.dueRow("new mend", x, 0);
        Check.due("NONE", ClayDisc.NONE, -1);
    }

    private static void signs() {
        ClayDisc x = new ClayDisc();
        for (int n = 4; n <= 80; n += 4) {
            Check.due("sign", x.sign(0x61626364), n);
        }
        Check.due("sign beyond 80", x.sign(0x61626364), -1);
        Check.due("it stays", x.count(12), 80);
        Check.due("end(81)", x.end(81), false);
        Check.due("end(-1)", x.end(-1), false);
        Check.due("end(min)", x.end(Integer.MIN_VALUE), false);
        Check.due("end(80)", x.end(80), true);
        Check.due("end(77)", x.end(77), true);
        Check.due("no room for four", x.sign(0), -1);
        Check.due("end(76)", x.end(76), true);
        Check.due("room for four", x.sign(0), 80);
        Check.due("end(0)", x.end(0), true);
        Check.due("end(1)", x.end(1), false);
        // The highest byte is the first sign, whatever v's own sign.
        x.sign(0x41616263);
        x.end(1);
        Check.due("first sign is the highest byte", x.word(0), 0);
        x.sign(0xFF414141);
        Check.due("a sign of 255", x.word(0), -1);
        x.sign(0x414180FF);
        Check.due("a sign of 128", x.word(0), -3);
    }

    private static void discs() {
        ClayDisc x = new ClayDisc();
        String six = "abcdef";
        String[] texts = {"", "-", "a", "a-", "a-b", "a--b", "m", "?", "al?-?", "abcdef", "abcdefg", "abcdef-g",
            "A", "a-B", "ab\u00ff", "a-a-a-a-a-a-a-a-a-a-a-a", "a-a-a-a-a-a-a-a-a-a-a-a-", "a-a-a-a-a-a-a-a-a-a-a-ab-c",
            six + "-" + six + "-" + six + "-" + six + "-" + six + "-" + six + "-" + six + "-" + six + "-abcd",
            six + "-" + six + "-" + six + "-" + six + "-" + six + "-" + six + "-" + six + "-" + six + "-abcde",
            six + "-" + six + "-" + six + "-" + six + "-" + six + "-" + six + "-" + six + "-" + six + "-abcdz",
            six + "-" + six + "-" + six + "-" + six + "-" + six + "-" + six + "-" + six + "-" + six + "-abc-",
            six + "-" + six + "-" + six + "-" + six + "-" + six + "-" + six + "-" + six + "-" + six + "-abc-d",
            six + "-" + six + "-" + six + "-" + six + "-" + six + "-" + six + "-" + six + "-" + six + "-ab--d",
            six + "-" + six + "-" + six + "-" + six + "-" + six + "-" + six + "-" + six + "-" + six + "-abc-" + six};
        int[] due = {-1, -1, 1, -3, 2, -3, -1, 1, 2, 1, -7, 2, -1, -3, -3, 12, -24, -25, 9, -61, -61, -61, -61, -60, -61};
        for (int i = 0; i < texts.length; i++) {
            Check.disc(x, "abc-de");
            x.over(1, 0);
            Check.due("disc " + texts[i], Check.disc(x, texts[i]), due[i]);
            Check.due("disc " + texts[i] + ": the text is empty", x.count(12), 0);
            Check.due("disc " + texts[i] + ": groups", x.count(0), due[i] < 0 ? 2 : due[i]);
            Check.due("disc " + texts[i] + ": overs", x.count(9), due[i] < 0 ? 1 : 0);
        }
    }

    private static void words() {
        ClayDisc x = new ClayDisc();
        String[] texts = {"", "A", "A", "H", "I", "a", "ABCDEF", "ABCDEFG", "ABCDEI", "ABCDEFI", "AI", "A-", "AB", "ABCDEF"};
        int[] due = {-1, 0, -101, 1, -1, -1, 2, -7, -6, -7, -2, -2, 3, -101};
        for (int i = 0; i < texts.length; i++) {
            Check.due("word " + texts[i], Check.word(x, 2, texts[i]), due[i]);
            Check.due("the text is empty", x.count(12), 0);
        }
        Check.due("words", x.count(4), 4);
        Check.due("of another tongue", x.count(3), 0);
        Check.due("a word of another tongue", Check.word(x, 3, "A"), 0);
        for (int tongue : new int[] {4, -1, Integer.MIN_VALUE, Integer.MAX_VALUE}) {
            Check.due("no such tongue comes first", Check.word(x, tongue, "x"), -100);
            Check.due("the text is empty", x.count(12), 0);
        }
        for (int i = 4; i < 20; i++) {
            String text = "" + (char) ('A' + i % 8) + (char) ('A' + i / 8) + "A";
            Check.due("word " + text, Check.word(x, 2, text), i);
        }
        Check.due("a 21st", Check.word(x, 2, "HH"), -100);
        Check.due("20 comes ahead of a fault", Check.word(x, 2, "x"), -100);
        Check.due("20 comes ahead of a word it has", Check.word(x, 2, "A"), -100);
        Check.due("forget(4)", x.forget(4), -1);
        Check.due("forget(-1)", x.forget(-1), -1);
        Check.due("forget", x.forget(2), 20);
        Check.due("forget again", x.forget(2), 0);
        Check.due("others stay", x.count(5), 1);
        Check.due("a word anew", Check.word(x, 2, "A"), 0);
    }

    private static void laxnesses() {
        ClayDisc x = new ClayDisc();
        String[] texts = {"", "h", "h0", "h1", "h3d", "h3d2", "h4d2", "h3d3", "h2d1b", "h2d1bb", "h2d1x", "b", "h2d1b-----",
            "d0h1", "h2b", "h1d0"};
        int[] due = {-1, -2, -2, -3, -4, 0, -2, -4, 0, -6, -5, -1, -6, -1, -3, 0};
        int[] homes = {1, 1, 1, 1, 1, 3, 3, 3, 2, 2, 2, 2, 2, 2, 2, 1};
        int[] drops = {0, 0, 0, 0, 0, 2, 2, 2, 1, 1, 1, 1, 1, 1, 1, 0};
        int[] back = {0, 0, 0, 0, 0, 0, 0, 0, 1, 1, 1, 1, 1, 1, 1, 0};
        for (int i = 0; i < texts.length; i++) {
            Check.due("laxness " + texts[i], Check.laxness(x, texts[i]), due[i]);
            Check.due("the text is empty", x.count(12), 0);
            Check.due("homes behind " + texts[i], x.count(6), homes[i]);
            Check.due("drops behind " + texts[i], x.count(7), drops[i]);
            Check.due("back behind " + texts[i], x.count(8), back[i]);
        }
    }

    private static void places() {
        ClayDisc x = new ClayDisc();
        Check.disc(x, "al-?-b");
        int[] due = {0, 11, 12, 1};
        for (int place = 0; place < due.length; place++) {
            Check.due("at " + place, x.at(place), due[place]);
        }
        for (int place : new int[] {4, -1, 60, Integer.MAX_VALUE, Integer.MIN_VALUE}) {
            Check.dueNone("at " + place, () -> x.at(place));
        }
    }
}
