/** Promises 1 to 8, and what the terms say of texts: each sentence that names a bound, at it and just past it. */
public final class TextsBoundsTest {
    public static void main(String[] args) {
        newObjectHasNothingTold();
        signsUpTo80();
        endAtWhatThereIs();
        discOfOneToSixSignsAGroup();
        discOfKindsAToL();
        discOfTwelveGroups();
        discOf60Signs();
        discThatEndsTooEarly();
        discWithAFaultChangesTheTextAlone();
        discTakesOversAway();
        wordOfOneToSixLetters();
        wordOfLettersAToH();
        wordOfTongues0To3();
        wordUpTo20();
        wordAskedInOrder();
        wordKnownAlready();
        laxnessSignBySign();
        laxnessThatEndsTooEarly();
        laxnessWithMore();
        laxnessWithAFaultChangesTheTextAlone();
        forgetTongues0To3();
        atPlacesThatThereAre();
        Check.over("bounds of texts");
    }

    private static void newObjectHasNothingTold() {
        ClayDisc x = new ClayDisc();
        for (int what = 0; what <= 13; what++) {
            Check.due("count(" + what + ")", x.count(what), what == 6 ? 1 : 0);
        }
        Check.due("R at first 1", x.seed(1), 1);
        Check.due("no TEXT: end(0)", x.end(0), true);
        Check.due("no TEXT: end(1)", x.end(1), false);
        for (int i = 0; i <= 2; i++) {
            Check.due("nothing kept", x.again(i), false);
        }
        for (int find = 0; find < 12; find++) {
            Check.due("a FIND is unknown at first", x.find(find, 0), 0);
        }
        x.claim();
        for (int find = 0; find < 12; find++) {
            Check.due("a CLAIM says nothing at first", x.says(0, find, 0), 0);
        }
    }

    private static void text(ClayDisc x, String part, int n) {
        x.end(0);
        Check.tell(x, part.repeat(n));
    }

    private static void signsUpTo80() {
        ClayDisc x = new ClayDisc();
        text(x, "ab", 38);
        Check.due("76 and 4", x.sign(0x61626364), 80);
        Twins.refused("80 and 4", Twins.richAnd(y -> text(y, "abcd-", 16)), y -> y.sign(0x65656565));
        for (int n = 77; n < 80; n++) {
            int had = n;
            Twins.refused(n + " and 4", Twins.richAnd(y -> {
                text(y, "abcd-", 16);
                y.end(had);
            }), y -> y.sign(0x65656565));
        }
        ClayDisc z = new ClayDisc();
        Check.due("of v the highest byte first", z.sign('a' << 24 | '-' << 16 | '?' << 8 | 'l'), 4);
        Check.due("two groups", z.disc(), 2);
        Check.due("the first", z.at(0), 0);
        Check.due("the third", z.at(1), 12);
        Check.due("the fourth", z.at(2), 11);
    }

    private static void endAtWhatThereIs() {
        for (int n : new int[] {9, 81, -1, Integer.MAX_VALUE, Integer.MIN_VALUE}) {
            Twins.unchanged("8 signs, end(" + n + ")", 0, Twins::rich, x -> x.end(n) ? 1 : 0);
        }
        Twins.unchanged("8 signs, end(8)", 1, Twins::rich, x -> x.end(8) ? 1 : 0);
        ClayDisc x = new ClayDisc();
        Twins.rich(x);
        Check.due("end(7)", x.end(7), true);
        Check.due("7 signs", x.count(12), 7);
        Check.due("8 signs no more", x.end(8), false);
        Check.due("its first 7 alone", x.disc(), 2);
        Check.due("its first 7 alone", x.at(5), 12);
        Check.due("end(0) of none", x.end(0), true);
        text(x, "ab", 40);
        Check.due("end(80)", x.end(80), true);
        Check.due("end(1)", x.end(1), true);
        Check.due("end(0)", x.end(0), true);
        Check.due("none", x.count(12), 0);
    }

    private static void discIs(String text, int due) {
        ClayDisc x = new ClayDisc();
        Check.due("disc " + text, Check.disc(x, text), due);
        Check.due("disc " + text + ": GROUPS", x.count(0), Math.max(due, 0));
        Check.due("disc " + text + ": PLACES", x.count(1), due < 0 ? 0 : text.replace("-", "").length());
        // A second text is told by the same rules.
        Check.disc(x, "a");
        Check.words(x, 0, "A");
        int second = Check.second(x, 0, text);
        Check.due("second " + text, second < -99, due < 0);
        Check.due("second " + text, due < 0 ? second : -100, due < 0 ? due - 99 : -100);
    }

    private static void discOfOneToSixSignsAGroup() {
        discIs("a", 1);
        discIs("-", -1);
        discIs("-a", -1);
        discIs("a--a", -3);
        discIs("abcdef", 1);
        discIs("abcdefg", -7);
        discIs("??????", 1);
        discIs("???????", -7);
        discIs("a-abcdef-a", 3);
        discIs("a-abcdefg-a", -9);
        discIs("abcdef-", -8);
        discIs("abcdef--", -8);
        // What can't stand there is told as such in the seventh sign too.
        discIs("abcdefz", -7);
    }

    private static void discOfKindsAToL() {
        ClayDisc x = new ClayDisc();
        for (int sign = 0; sign < 256; sign++) {
            boolean fits = sign >= 'a' && sign <= 'l' || sign == '?';
            String one = "" + (char) sign;
            Check.due("sign " + sign + " alone", Check.disc(x, one), fits ? 1 : -1);
            Check.due("sign " + sign + " behind another", Check.disc(x, "a" + one), fits ? 1 : sign == '-' ? -3 : -2);
        }
        Check.disc(x, "al?");
        Check.due("a", x.at(0), 0);
        Check.due("l", x.at(1), 11);
        Check.due("?", x.at(2), 12);
    }

    private static void discOfTwelveGroups() {
        discIs(Check.groups("a", 12), 12);
        discIs(Check.groups("a", 12) + "-", -24);
        discIs(Check.groups("a", 13), -24);
        discIs(Check.groups("a", 11) + "-", -23);
        discIs(Check.groups("abcd", 12), 12);
        discIs(Check.groups("abcd", 12) + "-", -60);
        discIs(Check.groups("abcd", 12) + "e", 12);
        discIs(Check.groups("abcd", 11) + "-abcde-", -61);
        discIs(Check.groups("abcd", 11) + "-abcde", 12);
    }

    private static void discOf60Signs() {
        String eight = Check.groups("abcdef", 8);
        discIs(eight + "-abc", 9);
        discIs(eight + "-abcd", 9);
        discIs(eight + "-abcde", -61);
        discIs(eight + "-abcd-", -61);
        // The 61st does not matter, nor what comes behind it.
        discIs(eight + "-abcd.", -61);
        discIs(eight + "-abcd-abcdef-abcdef-a", -61);
        // 60 that could go on alone, as they end with -.
        discIs(eight + "-abc-", -61);
        discIs(eight + "-abc-d", -61);
        discIs(eight + "-abc--", -61);
        // A fault among the first 60 is told, however many come behind.
        discIs(eight + "-abc." + "abcd", -60);
        discIs(eight + "-ab--" + "abcd", -60);
        discIs("." + eight + "-abcde", -1);
        discIs(Check.groups("abcd", 12) + "-abcd", -60);
        discIs(Check.groups("abcd", 11) + "-abcdef", -61);
        discIs(Check.groups("abcdef", 7) + "-abcdefg-abcdef-abc", -56);
    }

    private static void discThatEndsTooEarly() {
        discIs("", -1);
        discIs("a-", -3);
        discIs("a-b-", -5);
        discIs("abcdef-abcdef-", -15);
    }

    private static void discWithAFaultChangesTheTextAlone() {
        String[] texts = {"", "-", "a-", "a.", "abcdefg", Check.groups("a", 13), "a".repeat(80)};
        int[] due = {-1, -1, -3, -2, -7, -24, -7};
        for (int i = 0; i < texts.length; i++) {
            String text = texts[i];
            Twins.unchanged("disc " + text, due[i], Twins.richAnd(x -> x.end(0)), x -> Check.disc(x, text));
            ClayDisc x = new ClayDisc();
            Twins.rich(x);
            Check.disc(x, text);
            Check.due("THE TEXT is empty", x.count(12), 0);
        }
    }

    private static void discTakesOversAway() {
        ClayDisc x = new ClayDisc();
        Check.disc(x, "abc");
        x.over(0, 1);
        x.over(1, 2);
        Check.due("a fault", Check.disc(x, "abc-"), -5);
        Check.due("OVERS stay", x.count(9), 2);
        Check.due("the same text", Check.disc(x, "abc"), 1);
        Check.due("no OVERS then", x.count(9), 0);
        Check.due("an OVER anew", x.over(0, 1), 1);
    }

    private static void wordIs(String text, int due) {
        ClayDisc x = new ClayDisc();
        Twins.rich(x);
        Check.due("word " + text, Check.word(x, 2, text), due);
        Check.due("word " + text + ": THE TEXT is empty", x.count(12), 0);
        Check.due("word " + text + ": WORDS", x.count(4), due < 0 ? 0 : 1);
        if (due < 0) {
            Twins.unchanged("word " + text, due, Twins.richAnd(y -> y.end(0)), y -> Check.word(y, 2, text));
        }
    }

    private static void wordOfOneToSixLetters() {
        wordIs("", -1);
        wordIs("A", 0);
        wordIs("ABCDEF", 0);
        wordIs("ABCDEFG", -7);
        wordIs("ABCDEF.", -7);
        wordIs("ABCDE.G", -6);
        wordIs("A".repeat(80), -7);
    }

    private static void wordOfLettersAToH() {
        for (int sign = 0; sign < 256; sign++) {
            boolean fits = sign >= 'A' && sign <= 'H';
            ClayDisc x = new ClayDisc();
            Check.due("sign " + sign + " alone", Check.word(x, 0, "" + (char) sign), fits ? 0 : -1);
            Check.due("sign " + sign + " sixth", Check.word(x, 0, "AAAAA" + (char) sign), fits ? 1 : -6);
        }
    }

    private static void wordOfTongues0To3() {
        for (int tongue = 0; tongue <= 3; tongue++) {
            ClayDisc x = new ClayDisc();
            Check.due("TONGUE " + tongue, Check.word(x, tongue, "A"), 0);
            for (int other = 0; other <= 3; other++) {
                Check.due("WORDS of " + other, x.count(2 + other), other == tongue ? 1 : 0);
            }
        }
        for (int tongue : new int[] {-1, 4, Integer.MIN_VALUE, Integer.MAX_VALUE}) {
            Twins.unchanged("TONGUE " + tongue, -100, Twins.richAnd(x -> x.end(0)), x -> Check.word(x, tongue, "A"));
        }
    }

    private static String wordNumber(int i) {
        return "" + (char) ('A' + i % 8) + (char) ('A' + i / 8) + "H";
    }

    private static void fill(ClayDisc x, int tongue, int n) {
        for (int i = 0; i < n; i++) {
            Check.word(x, tongue, wordNumber(i));
        }
    }

    private static void wordUpTo20() {
        ClayDisc x = new ClayDisc();
        for (int i = 0; i < 20; i++) {
            Check.due("word " + i, Check.word(x, 1, wordNumber(i)), i);
        }
        Check.due("20", x.count(3), 20);
        Check.due("another TONGUE has room", Check.word(x, 2, wordNumber(20)), 0);
        Twins.unchanged("a 21st", -100, y -> fill(y, 1, 20), y -> Check.word(y, 1, wordNumber(20)));
        Check.due("forget", x.forget(1), 20);
        Check.due("room again", Check.word(x, 1, wordNumber(20)), 0);
    }

    private static void wordAskedInOrder() {
        ClayDisc x = new ClayDisc();
        fill(x, 0, 20);
        Check.due("20, an empty text", Check.word(x, 0, ""), -100);
        Check.due("20, a fault", Check.word(x, 0, "A."), -100);
        Check.due("20, one it has", Check.word(x, 0, wordNumber(3)), -100);
        Check.due("THE TEXT is empty", x.count(12), 0);
        Check.due("no such TONGUE, a fault", Check.word(x, 4, "A."), -100);
        Check.due("no such TONGUE, an empty text", Check.word(x, -1, ""), -100);
        x.tongues();
        fill(x, 1, 19);
        Check.due("19, a fault", Check.word(x, 1, "A."), -2);
        Check.due("19, one it has", Check.word(x, 1, wordNumber(18)), -101);
        Check.due("19, a fault behind one it has", Check.word(x, 1, wordNumber(18) + "."), -4);
        Check.due("the 20th", Check.word(x, 1, "A"), 19);
    }

    private static void wordKnownAlready() {
        ClayDisc x = new ClayDisc();
        Check.words(x, 0, "ABCDEF", "A", "AB");
        for (String had : new String[] {"ABCDEF", "A", "AB"}) {
            Twins.unchanged("it has " + had, -101, y -> Check.words(y, 0, "ABCDEF", "A", "AB"), y -> Check.word(y, 0, had));
        }
        Check.due("one letter fewer", Check.word(x, 0, "ABCDE"), 3);
        Check.due("one letter more", Check.word(x, 0, "ABC"), 4);
        Check.due("the last letter unlike", Check.word(x, 0, "ABCDEE"), 5);
        Check.due("the first letter unlike", Check.word(x, 0, "BBCDEF"), 6);
        Check.due("another TONGUE has it not", Check.word(x, 1, "ABCDEF"), 0);
        x.forget(0);
        Check.due("forgotten", Check.word(x, 0, "ABCDEF"), 0);
    }

    private static void laxnessIs(String text, int due) {
        Check.due("laxness " + text, Check.laxness(new ClayDisc(), text), due);
    }

    private static void laxnessSignBySign() {
        for (int sign = 0; sign < 256; sign++) {
            String one = "" + (char) sign;
            laxnessIs(one + "1d0", sign == 'h' ? 0 : -1);
            laxnessIs("h" + one + "d0", sign >= '1' && sign <= '3' ? 0 : -2);
            laxnessIs("h1" + one + "0", sign == 'd' ? 0 : -3);
            laxnessIs("h1d" + one, sign >= '0' && sign <= '2' ? 0 : -4);
            laxnessIs("h1d0" + one, sign == 'b' ? 0 : -5);
            laxnessIs("h1d0b" + one, -6);
        }
        ClayDisc x = new ClayDisc();
        for (int homes = 1; homes <= 3; homes++) {
            for (int drops = 0; drops <= 2; drops++) {
                for (int back = 0; back <= 1; back++) {
                    String text = "h" + homes + "d" + drops + (back == 1 ? "b" : "");
                    Check.due("laxness " + text, Check.laxness(x, text), 0);
                    Check.due(text + ": HOMES", x.count(6), homes);
                    Check.due(text + ": DROPS", x.count(7), drops);
                    Check.due(text + ": BACK", x.count(8), back);
                }
            }
        }
    }

    private static void laxnessThatEndsTooEarly() {
        laxnessIs("", -1);
        laxnessIs("h", -2);
        laxnessIs("h1", -3);
        laxnessIs("h1d", -4);
        laxnessIs("h1d0", 0);
    }

    private static void laxnessWithMore() {
        laxnessIs("h1d0b", 0);
        laxnessIs("h1d0bb", -6);
        laxnessIs("h1d0b" + "b".repeat(75), -6);
        laxnessIs("h1d00", -5);
        laxnessIs("d0h1", -1);
    }

    private static void laxnessWithAFaultChangesTheTextAlone() {
        String[] texts = {"", "h", "h4d2b", "h3d", "h3d3b", "h3d2.", "h3d2bb", "H3d2b"};
        int[] due = {-1, -2, -2, -4, -4, -5, -6, -1};
        for (int i = 0; i < texts.length; i++) {
            String text = texts[i];
            Twins.unchanged("laxness " + text, due[i], Twins.richAnd(x -> x.end(0)), x -> Check.laxness(x, text));
            ClayDisc x = new ClayDisc();
            Twins.rich(x);
            Check.laxness(x, text);
            Check.due("THE TEXT is empty", x.count(12), 0);
        }
    }

    private static void forgetTongues0To3() {
        for (int tongue : new int[] {-1, 4, Integer.MIN_VALUE, Integer.MAX_VALUE}) {
            Twins.refused("forget(" + tongue + ")", Twins::rich, x -> x.forget(tongue));
        }
        Twins.unchanged("forget of no WORDS", 0, Twins::rich, x -> x.forget(3));
        for (int tongue = 0; tongue <= 3; tongue++) {
            ClayDisc x = new ClayDisc();
            fill(x, tongue, 20);
            Check.words(x, (tongue + 1) % 4, "A");
            Check.due("forget", x.forget(tongue), 20);
            Check.due("none", x.count(2 + tongue), 0);
            Check.due("forget again", x.forget(tongue), 0);
            Check.due("the others stay", x.count(2 + (tongue + 1) % 4), 1);
        }
    }

    private static void atPlacesThatThereAre() {
        ClayDisc x = new ClayDisc();
        Check.dueNone("no DISC: at(0)", () -> x.at(0));
        Check.disc(x, Check.groups("abcdef", 8) + "-gh?l");
        Check.due("at(0)", x.at(0), 0);
        Check.due("at(6), - left out", x.at(6), 0);
        Check.due("at(51)", x.at(51), 11);
        for (int place : new int[] {-1, 52, 59, 60, Integer.MIN_VALUE, Integer.MAX_VALUE}) {
            Check.dueNone("at(" + place + ")", () -> x.at(place));
            Twins.unchanged("at(" + place + ")", 7, Twins::rich, y -> thrown(y, place));
        }
        Check.disc(x, "b");
        Check.due("a lesser DISC", x.at(0), 1);
        Check.dueNone("at(1) of a lesser DISC", () -> x.at(1));
    }

    private static long thrown(ClayDisc x, int place) {
        try {
            return x.at(place);
        } catch (java.util.NoSuchElementException e) {
            return 7;
        }
    }
}
