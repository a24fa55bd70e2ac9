import java.util.Arrays;
import java.util.Map;
import java.util.NoSuchElementException;
import java.util.Random;
import java.util.TreeMap;

/** Runs of calls at random (always the same ones), each compared with the plain program: answer, ROW and counts. */
public final class RandomRunsTest {
    private final Random dice;
    private final ClayDisc x = new ClayDisc();
    private final Naive y = new Naive();
    private final int run;
    private final int letters;
    private final int kinds;
    private final StringBuilder story = new StringBuilder();

    /** How often each call answered what kind of thing: -3, -2, NONE, 0, more. */
    private static final Map<String, int[]> ANSWERED = new TreeMap<>();
    private static int wrongRuns = 0;

    private RandomRunsTest(int run) {
        this.run = run;
        dice = new Random(run);
        letters = 2 + dice.nextInt(7);
        kinds = 2 + dice.nextInt(11);
    }

    public static void main(String[] args) {
        int runs = args.length > 0 ? Integer.parseInt(args[0]) : 400;
        int from = args.length > 1 ? Integer.parseInt(args[1]) : 0;
        for (int run = from; run < from + runs && wrongRuns < 5; run++) {
            new RandomRunsTest(run).go();
        }
        Check.due("wrong runs", wrongRuns, 0);
        if (args.length > 0) {
            ANSWERED.forEach((name, n) -> System.out.println(name + " " + Arrays.toString(n)));
        }
        Check.over("random runs");
    }

    private void go() {
        boolean ready = run % 4 == 1 ? readableDisc() : run % 4 == 2 ? manyClaims() : anyDisc();
        if (!ready) {
            wrongRuns++;
            System.out.println("run " + run + ":\n" + story);
            return;
        }
        for (int i = 0; i < 120; i++) {
            boolean same = dice.nextInt(run % 4 == 0 ? 3 : 12) == 0 ? tellSomething() : ask();
            if (!same) {
                wrongRuns++;
                System.out.println("run " + run + ":\n" + story);
                return;
            }
        }
    }

    private boolean same(String call, long got, long want) {
        story.append(call).append(" = ").append(got);
        String name = call.replaceAll("\\(.*", "");
        ANSWERED.computeIfAbsent(name, n -> new int[5])[(int) Math.max(-3, Math.min(1, got)) + 3]++;
        long[] row = Check.rowOf(x);
        long[] dueRow = y.row.stream().mapToLong(Long::longValue).toArray();
        boolean good = got == want && Arrays.equals(row, dueRow);
        for (int what = -1; what < 15; what++) {
            good &= x.count(what) == y.count(what);
        }
        if (!good) {
            story.append(" WRONG, due is ").append(want).append("; ROW ").append(Arrays.toString(row)).append(" due ")
                .append(Arrays.toString(dueRow));
        }
        story.append('\n');
        return good;
    }

    private String text(String signs, int least, int most) {
        StringBuilder b = new StringBuilder();
        int n = least + dice.nextInt(most - least + 1);
        for (int i = 0; i < n; i++) {
            b.append(signs.charAt(dice.nextInt(signs.length())));
        }
        return b.toString();
    }

    private String discText() {
        StringBuilder b = new StringBuilder();
        String all = "abcdefghijkl".substring(0, kinds) + (dice.nextInt(3) == 0 ? "?" : "");
        int groups = dice.nextInt(6) == 0 ? 1 + dice.nextInt(13) : 1 + dice.nextInt(5);
        int length = 1 + dice.nextInt(dice.nextInt(4) == 0 ? 6 : 3);
        for (int g = 0; g < groups; g++) {
            b.append(g == 0 ? "" : "-").append(text(all, 1, length));
        }
        if (dice.nextInt(12) == 0) {
            b.append(text("abc-?mZ\u00ff", 1, 5));
        }
        return b.length() > 80 ? b.substring(0, 80) : b.toString();
    }

    private void write(String text) {
        story.append("text ").append(text).append('\n');
        x.end(0);
        y.end(0);
        Check.tell(x, text);
        y.text = text;
    }

    private boolean tellSomething() {
        switch (dice.nextInt(9)) {
            case 0: case 1:
                write(run % 4 == 1 ? speltDisc() : discText());
                return same("disc", x.disc(), y.disc());
            case 2: case 3: case 4: {
                write(dice.nextInt(20) == 0 ? text("ABCI?", 0, 8) : text("ABCDEFGH".substring(0, letters), 1, 3));
                int tongue = number(4);
                return same("word(" + tongue + ")", x.word(tongue), y.word(tongue));
            }
            case 5:
                write(dice.nextInt(6) == 0 ? text("hdb01", 0, 6)
                    : "h" + (1 + dice.nextInt(3)) + "d" + dice.nextInt(3) + (dice.nextBoolean() ? "b" : ""));
                return same("laxness", x.laxness(), y.laxness());
            case 6: {
                int v = dice.nextInt();
                return same("sign", x.sign(v), y.sign(v));
            }
            case 7: {
                int n = number(12);
                return same("end(" + n + ")", x.end(n) ? 1 : 0, y.end(n) ? 1 : 0);
            }
            default: {
                int tongue = number(4);
                return dice.nextInt(8) != 0 || same("forget(" + tongue + ")", x.forget(tongue), y.forget(tongue));
            }
        }
    }

    /** Mostly below n, now and then beside it or far off. */
    private int number(int n) {
        switch (dice.nextInt(25)) {
            case 0: return -1;
            case 1: return n;
            case 2: return dice.nextInt();
            default: return n > 0 ? dice.nextInt(n) : 0;
        }
    }

    /** Tongues of many words, and a disc that is spelt by some of them, so that there is much to read. */
    private boolean readableDisc() {
        boolean good = true;
        String some = "ABCDEFGH".substring(0, letters);
        int most = 1 + dice.nextInt(3);
        int n = 4 + dice.nextInt(17);
        for (int i = 0; i < n && good; i++) {
            int tongue = dice.nextInt(8) == 0 ? 1 : 0;
            write(text(some, 1, most));
            good = same("word(" + tongue + ")", x.word(tongue), y.word(tongue));
        }
        write("h" + (1 + dice.nextInt(3)) + "d" + dice.nextInt(3) + (dice.nextInt(4) == 0 ? "b" : ""));
        good = good && same("laxness", x.laxness(), y.laxness());
        write(speltDisc());
        return good && same("disc", x.disc(), y.disc());
    }

    private String speltDisc() {
        if (y.tongues.get(0).isEmpty()) {
            return discText();
        }
        StringBuilder b = new StringBuilder();
        int groups = 1 + dice.nextInt(dice.nextInt(3) == 0 ? 12 : 5);
        int shift = dice.nextInt(12);
        for (int g = 0; g < groups; g++) {
            String word = y.tongues.get(0).get(dice.nextInt(y.tongues.get(0).size()));
            b.append(g == 0 ? "" : "-");
            for (int i = 0; i < word.length(); i++) {
                int kind = (word.charAt(i) - 'A' + shift + (y.homes > 1 && dice.nextInt(4) == 0 ? 8 : 0)) % 12;
                b.append(dice.nextInt(15) == 0 ? '?' : (char) ('a' + kind));
            }
        }
        return b.toString();
    }

    private boolean anyDisc() {
        write(discText());
        return same("disc", x.disc(), y.disc());
    }

    private boolean manyClaims() {
        boolean good = true;
        int n = 2 + dice.nextInt(9);
        int said = 2 + dice.nextInt(11);
        for (int claim = 0; claim < n && good; claim++) {
            good = same("claim()", x.claim(), y.claim());
            for (int find = 0; find < said && good; find++) {
                int v = dice.nextInt(3);
                int c = claim;
                int f = dice.nextInt(3) == 0 ? dice.nextInt(12) : find;
                good = same("says(" + c + ", " + f + ", " + v + ")", x.says(c, f, v), y.says(c, f, v));
            }
        }
        return good;
    }

    private int whichCall() {
        switch (dice.nextInt(4) == 0 ? 0 : run % 4) {
            case 1: return dice.nextInt(14);
            case 2: return 30 + dice.nextInt(9);
            case 3: return 14 + dice.nextInt(15);
            default: return dice.nextInt(42);
        }
    }

    private boolean ask() {
        int call = whichCall();
        if (call < 14) {
            return askReadings(call);
        }
        if (call < 22) {
            return askOrders(call);
        }
        if (call < 29) {
            return askKinds(call);
        }
        return call < 39 ? askClaims(call) : askKept(call);
    }

    private boolean askReadings(int call) {
        int t = run % 4 == 1 && dice.nextInt(4) != 0 ? 0 : number(4);
        int i = number(dice.nextBoolean() ? 12 : 200);
        switch (call) {
            case 0: case 1: return same("readings(" + t + ")", x.readings(t), y.readings(t));
            case 2: return same("reading(" + t + ", " + i + ")", x.reading(t, i), y.reading(t, i));
            case 3: return same("sure(" + t + ")", x.sure(t), y.sure(t));
            case 4: return same("letters(" + t + ", " + i + ")", x.letters(t, i), y.letters(t, i));
            case 5: return same("means(" + t + ", " + i % 5 + ")", x.means(t, i % 5), y.means(t, i % 5));
            case 6: return same("tongues()", x.tongues(), y.tongues());
            case 7: return same("lax(" + t + ")", x.lax(t), y.lax(t));
            case 8: return same("need(" + t + ")", x.need(t), y.need(t));
            case 9: case 10:
                write(dice.nextBoolean() ? speltDisc() : discText());
                return same("second(" + t + ")", x.second(t), y.second(t));
            case 11: {
                int n = number(13);
                return same("chance(" + t + ", " + n + ")", x.chance(t, n), y.chance(t, n))
                    && same("seed after", x.seed(y.random), y.random);
            }
            case 12: return same("next(" + t + ")", x.next(t), y.next(t));
            default: {
                int bits = number(4096);
                return same("blind(" + t + ", " + bits + ")", x.blind(t, bits), y.blind(t, bits));
            }
        }
    }

    private boolean askOrders(int call) {
        int places = Math.min(y.count(1), 14);
        int p = number(places);
        int q = number(places);
        switch (call) {
            case 14: return same("orders()", x.orders(), y.orders());
            case 15: return same("ahead(" + p + ", " + q + ")", x.ahead(p, q), y.ahead(p, q));
            case 16: {
                int what = number(2);
                return same("ends(" + what + ")", x.ends(what), y.ends(what));
            }
            case 17: return same("way()", x.way(), y.way());
            case 18: return same("lot()", x.lot(), y.lot());
            case 19: return same("mend()", x.mend(), y.mend());
            case 20: return same("over(" + p + ", " + q + ")", x.over(p, q), y.over(p, q));
            default: return someOvers(p);
        }
    }

    private boolean someOvers(int p) {
        boolean good = true;
        for (int i = 0; i < 5 && good; i++) {
            int behind = p + dice.nextInt(3);
            int ahead = p + dice.nextInt(3);
            good = same("over(" + behind + ", " + ahead + ")", x.over(behind, ahead), y.over(behind, ahead));
        }
        return good;
    }

    private boolean askKinds(int call) {
        switch (call) {
            case 22: return same("kinds()", x.kinds(), y.kinds());
            case 23: return same("many()", x.many(), y.many());
            case 24: {
                int one = number(dice.nextBoolean() ? 14 : 201);
                int other = number(dice.nextBoolean() ? 14 : 201);
                return same("script(" + one + ", " + other + ")", x.script(one, other), y.script(one, other));
            }
            case 25: return same("like()", x.like(), y.like());
            case 26: return same("repeat()", x.repeat(), y.repeat());
            case 27: {
                int what = number(2);
                int n = number(4);
                return same("rhyme(" + what + ", " + n + ")", x.rhyme(what, n), y.rhyme(what, n));
            }
            default: {
                int all = number(46);
                int k = number(Math.max(0, all) % 47 + 1);
                int m = number(Math.max(0, all) % 47 + 1);
                int s = number(Math.max(0, m) % 12 + 1);
                return same("axe(" + all + ", " + k + ", " + m + ", " + s + ")", x.axe(all, k, m, s), y.axe(all, k, m, s));
            }
        }
    }

    private boolean askClaims(int call) {
        int claim = number(y.claims.size());
        int find = number(dice.nextBoolean() ? 4 : 12);
        int v = number(3);
        switch (call) {
            case 29: return same("claim()", x.claim(), y.claim());
            case 30: return same("says(" + claim + ", " + find + ", " + v + ")", x.says(claim, find, v), y.says(claim, find, v));
            case 31: {
                int kind = number(4);
                int n = number(14) - (dice.nextInt(9) == 0 ? 5 : 0);
                int f = dice.nextInt() >> dice.nextInt(32);
                int step = dice.nextInt() >> dice.nextInt(32);
                return same("sheet(" + claim + ", " + kind + ", " + n + ", " + f + ", " + step + ")",
                    x.sheet(claim, kind, n, f, step), y.sheet(claim, kind, n, f, step));
            }
            case 32: return same("find(" + find + ", " + v + ")", x.find(find, v), y.find(find, v));
            case 33: return same("stand()", x.stand(), y.stand());
            case 34: return same("risks(" + claim + ")", x.risks(claim), y.risks(claim));
            case 35: return same("idle()", x.idle(), y.idle());
            case 36: return same("seek()", x.seek(), y.seek());
            case 37: return same("part()", x.part(), y.part());
            default: return same("plan()", x.plan(), y.plan());
        }
    }

    private boolean askKept(int call) {
        int i = number(3);
        switch (call) {
            case 39: {
                int v = dice.nextInt();
                return same("seed", x.seed(v), y.seed(v));
            }
            case 40: return same("keep(" + i + ")", x.keep(i) ? 1 : 0, y.keep(i) ? 1 : 0);
            default: return same("again(" + i + ")", x.again(i) ? 1 : 0, y.again(i) ? 1 : 0) && sameSigns();
        }
    }

    private boolean sameSigns() {
        boolean good = true;
        for (int place = -1; place < 61; place++) {
            int got;
            try {
                got = x.at(place);
            } catch (NoSuchElementException e) {
                got = Integer.MIN_VALUE;
            }
            good &= got == y.at(place);
        }
        return good || same("at", 0, 1);
    }
}
