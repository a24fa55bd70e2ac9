import java.math.BigInteger;
import java.util.ArrayList;
import java.util.Arrays;
import java.util.List;
import java.util.Random;

/**
 * The document's words taken as they stand: all LETTERS for all KINDS are tried, all rows of PLACES, all draws, all
 * things at lot. ClayDisc and Naive both go shorter ways; here none is taken, so the inputs are small.
 */
public final class DefinitionsTest {
    private static final Random DICE = new Random(49);

    private String[] words;
    private int homes;
    private int drops;
    private boolean back;

    public static void main(String[] args) {
        for (int i = 0; i < 400; i++) {
            new DefinitionsTest().readings();
        }
        for (int i = 0; i < 80; i++) {
            orders();
        }
        for (int i = 0; i < 60; i++) {
            scripts(text("abcdefghijkl".substring(0, 1 + DICE.nextInt(12)), 1 + DICE.nextInt(52)));
        }
        draws();
        axes();
        repeats();
        Check.over("definitions");
    }

    private static String text(String signs, int n) {
        StringBuilder b = new StringBuilder();
        for (int i = 0; i < n; i++) {
            b.append(signs.charAt(DICE.nextInt(signs.length())));
        }
        return b.toString();
    }

    private static String groups(String signs, int most, int length) {
        String[] all = new String[1 + DICE.nextInt(most)];
        for (int g = 0; g < all.length; g++) {
            all[g] = text(signs, 1 + DICE.nextInt(length));
        }
        return String.join("-", all);
    }

    /** So many signs in groups of six. */
    private static String inGroups(String signs) {
        return signs.replaceAll("(.{6})(?=.)", "$1-");
    }

    // ---- readings: four KINDS at most, so that all 8 to the power of 4 LETTERS for them can be tried

    private void readings() {
        words = new String[1 + DICE.nextInt(9)];
        for (int w = 0; w < words.length; w++) {
            words[w] = text("ABCDEFGH".substring(0, 2 + DICE.nextInt(7)), 1 + DICE.nextInt(4));
        }
        words = Arrays.stream(words).distinct().toArray(String[]::new);
        homes = 1 + DICE.nextInt(3);
        drops = DICE.nextInt(3);
        back = DICE.nextBoolean();
        String disc = groups(DICE.nextInt(3) == 0 ? "abcd?" : "abcd", 4, 3);
        ClayDisc x = fresh(disc);
        String told = Arrays.toString(words) + " h" + homes + "d" + drops + (back ? "b " : " ") + disc;
        List<int[]> all = allReadings(disc);
        Check.due("readings of " + told, x.readings(2), all.size());
        Check.due("steps of " + told, x.count(13), steps(disc));
        for (int i = 0; i < Math.min(all.size(), 200); i++) {
            ClayDisc y = fresh(disc);
            y.reading(2, i);
            dueLetters("reading " + i + " of " + told, y, all.get(i));
        }
        Check.due("no more of " + told, all.size() > 199 || x.reading(2, all.size()) == -2, true);
        eachGroup(told, disc, all);
        eachKind(told, disc, all);
        whatWouldDo(told, disc);
        second(told, disc, all);
    }

    /** A new object for each run of questions, as it is promised for 512 calls alone. */
    private ClayDisc fresh(String disc) {
        ClayDisc x = new ClayDisc();
        Check.laxness(x, "h" + homes + "d" + drops + (back ? "b" : ""));
        Check.words(x, 2, words);
        Check.disc(x, disc);
        return x;
    }

    private static void dueLetters(String call, ClayDisc x, int[] letters) {
        long[] row = new long[12];
        Arrays.fill(row, -1);
        for (int kind = 0; kind < letters.length; kind++) {
            row[kind] = letters[kind];
        }
        Check.dueRow(call, x, row);
    }

    /** In order by the LETTERS of KINDS a, b, c, d: -1 for a KIND that the groups have not. */
    private List<int[]> allReadings(String disc) {
        List<int[]> all = new ArrayList<>();
        int[] letters = new int[4];
        for (letters[0] = least(disc, 0); letters[0] < most(disc, 0); letters[0]++) {
            for (letters[1] = least(disc, 1); letters[1] < most(disc, 1); letters[1]++) {
                for (letters[2] = least(disc, 2); letters[2] < most(disc, 2); letters[2]++) {
                    for (letters[3] = least(disc, 3); letters[3] < most(disc, 3); letters[3]++) {
                        if (isReading(letters, disc)) {
                            all.add(letters.clone());
                        }
                    }
                }
            }
        }
        return all;
    }

    private static int least(String disc, int kind) {
        return disc.indexOf('a' + kind) < 0 ? -1 : 0;
    }

    private static int most(String disc, int kind) {
        return disc.indexOf('a' + kind) < 0 ? 0 : 8;
    }

    private boolean isReading(int[] letters, String disc) {
        int[] kindsOf = new int[8];
        for (int letter : letters) {
            if (letter >= 0 && ++kindsOf[letter] > homes) {
                return false;
            }
        }
        for (String group : disc.split("-")) {
            if (wordsOf(group, letters) == 0) {
                return false;
            }
        }
        return true;
    }

    private int wordsOf(String group, int[] letters) {
        String signs = back ? new StringBuilder(group).reverse().toString() : group;
        StringBuilder spelling = new StringBuilder();
        for (char c : signs.toCharArray()) {
            spelling.append(c == '?' ? '.' : (char) ('A' + letters[c - 'a']));
        }
        int bits = 0;
        for (int w = 0; w < words.length; w++) {
            bits |= words[w].matches(spelling + "[A-H]{0," + drops + "}") ? 1 << w : 0;
        }
        return bits;
    }

    /** A way to a group is a READING of the groups to it, so that STEPS are the READINGS of the first, the first two, .. */
    private int steps(String disc) {
        int n = 0;
        String[] all = disc.split("-");
        for (int g = 1; g <= all.length; g++) {
            n += allReadings(String.join("-", Arrays.copyOf(all, g))).size();
        }
        return n;
    }

    private void eachGroup(String told, String disc, List<int[]> all) {
        ClayDisc x = fresh(disc);
        String[] groups = disc.split("-");
        long[] first = new long[groups.length];
        int need = -2;
        for (int g = 0; g < groups.length; g++) {
            int bits = 0;
            for (int[] letters : all) {
                bits |= wordsOf(groups[g], letters);
            }
            Check.due("means " + g + " of " + told, x.means(2, g), bits);
            first[g] = allReadings(String.join("-", Arrays.copyOf(groups, g + 1))).size();
            need = need == -2 && first[g] <= 1 ? g + 1 : need;
        }
        Check.due("need of " + told, x.need(2), need);
        if (need > 0) {
            Check.dueRow("need of " + told, x, Arrays.copyOf(first, need));
        }
    }

    private void eachKind(String told, String disc, List<int[]> all) {
        ClayDisc x = fresh(disc);
        int sure = 0;
        int next = -2;
        int fewest = Integer.MAX_VALUE;
        for (int kind = 0; kind < 4; kind++) {
            int[] left = new int[8];
            int bits = 0;
            for (int[] letters : all) {
                if (letters[kind] >= 0) {
                    left[letters[kind]]++;
                    bits |= 1 << letters[kind];
                }
            }
            boolean has = disc.indexOf('a' + kind) >= 0;
            Check.due("letters " + kind + " of " + told, x.letters(2, kind), has ? bits : -1);
            int worst = Arrays.stream(left).max().getAsInt();
            sure |= has && !all.isEmpty() && worst == all.size() ? 1 << kind : 0;
            if (has && !all.isEmpty() && worst < fewest) {
                fewest = worst;
                next = kind;
            }
            String hidden = disc.replace((char) ('a' + kind), '?');
            Check.due("blind " + kind + " of " + told, x.blind(2, 1 << kind), allReadings(hidden).size());
        }
        Check.due("sure of " + told, x.sure(2), all.isEmpty() ? -2 : sure);
        Check.due("next of " + told, x.next(2), next);
        if (next >= 0) {
            Check.dueRow("next of " + told, x, fewest);
        }
    }

    private void whatWouldDo(String told, String disc) {
        ClayDisc x = fresh(disc);
        int homesWere = homes;
        int dropsWere = drops;
        int found = -2;
        long[] least = null;
        for (int both = 1; both <= 5 && found < 0; both++) {
            for (drops = 0; drops <= 2 && found < 0; drops++) {
                homes = both - drops;
                int n = homes >= 1 && homes <= 3 ? allReadings(disc).size() : 0;
                if (n > 0) {
                    found = n;
                    least = new long[] {homes, drops};
                }
            }
        }
        homes = homesWere;
        drops = dropsWere;
        Check.due("lax of " + told, x.lax(2), found);
        if (least != null) {
            Check.dueRow("lax of " + told, x, least);
        }
    }

    private void second(String told, String disc, List<int[]> all) {
        String other = groups("abcd?", 3, 3);
        List<int[]> both = allReadings(disc + "-" + other);
        int held = 0;
        for (int[] letters : all) {
            boolean goes = false;
            for (int[] more : both) {
                boolean same = true;
                for (int kind = 0; kind < 4; kind++) {
                    same &= letters[kind] < 0 || letters[kind] == more[kind];
                }
                goes |= same;
            }
            held += goes ? 1 : 0;
        }
        ClayDisc x = fresh(disc);
        Check.due("second " + other + " of " + told, Check.second(x, 2, other), held);
        Check.dueRow("second " + other + " of " + told, x, both.size());
    }

    // ---- orders: seven PLACES at most, so that all rows of them can be gone through

    private static void orders() {
        int places = 1 + DICE.nextInt(7);
        String disc = inGroups(text("ab?", places));
        ClayDisc x = new ClayDisc();
        Check.disc(x, disc);
        List<int[]> overs = new ArrayList<>();
        for (int i = DICE.nextInt(7); i > 0; i--) {
            int[] o = {DICE.nextInt(places), DICE.nextInt(places)};
            if (x.over(o[0], o[1]) > 0) {
                overs.add(o);
            }
        }
        List<int[]> rows = new ArrayList<>();
        allRows(new int[places], 0, 0, overs, rows);
        Check.due("orders of " + disc, x.orders(), rows.isEmpty() ? -2 : 0);
        if (!rows.isEmpty()) {
            Check.dueRow("orders of " + disc, x, rows.size());
        }
        dueEnds(x, rows, places);
        dueAhead(x, rows, places);
    }

    private static void allRows(int[] row, int n, int pressed, List<int[]> overs, List<int[]> rows) {
        if (n == row.length) {
            for (int[] o : overs) {
                if (placeIn(row, o[0]) < placeIn(row, o[1])) {
                    return;
                }
            }
            rows.add(row.clone());
            return;
        }
        for (int p = 0; p < row.length; p++) {
            if ((pressed >> p & 1) == 0) {
                row[n] = p;
                allRows(row, n + 1, pressed | 1 << p, overs, rows);
            }
        }
    }

    private static int placeIn(int[] row, int place) {
        int i = 0;
        while (row[i] != place) {
            i++;
        }
        return i;
    }

    private static void dueEnds(ClayDisc x, List<int[]> rows, int places) {
        int first = 0;
        int last = 0;
        for (int[] row : rows) {
            first |= 1 << row[0];
            last |= 1 << row[places - 1];
        }
        Check.due("first", x.ends(0), rows.isEmpty() ? -2 : first);
        Check.due("last", x.ends(1), rows.isEmpty() ? -2 : last);
    }

    private static void dueAhead(ClayDisc x, List<int[]> rows, int places) {
        for (int p = 0; p < places; p++) {
            int q = DICE.nextInt(places);
            long so = 0;
            for (int[] row : rows) {
                so += placeIn(row, p) < placeIn(row, q) ? 1 : 0;
            }
            Check.due("ahead(" + p + ", " + q + ")", x.ahead(p, q), p == q ? -1 : rows.isEmpty() ? -2 : 0);
            if (p != q && !rows.isEmpty()) {
                dueFraction("ahead(" + p + ", " + q + ")", x, so, rows.size());
            }
        }
    }

    private static void dueFraction(String call, ClayDisc x, long upper, long lower) {
        long g = BigInteger.valueOf(upper).gcd(BigInteger.valueOf(lower)).longValueExact();
        Check.dueRow(call, x, upper / g, lower / g);
    }

    // ---- kinds

    /** In how many ways so many draws of n KINDS show just so many unlike ones: draw by draw, one seen ahead or a new one. */
    private static BigInteger waysToSee(int n, int signs, int unlike) {
        BigInteger[] ways = new BigInteger[unlike + 1];
        Arrays.fill(ways, BigInteger.ZERO);
        ways[0] = BigInteger.ONE;
        for (int i = 0; i < signs; i++) {
            for (int seen = unlike; seen >= 1; seen--) {
                BigInteger anew = ways[seen - 1].multiply(BigInteger.valueOf(Math.max(0, n - seen + 1)));
                ways[seen] = ways[seen].multiply(BigInteger.valueOf(seen)).add(anew);
            }
            ways[0] = BigInteger.ZERO;
        }
        return ways[unlike];
    }

    private static int likelier(int one, int other, int signs, int unlike) {
        BigInteger a = waysToSee(one, signs, unlike).multiply(BigInteger.valueOf(other).pow(signs));
        BigInteger b = waysToSee(other, signs, unlike).multiply(BigInteger.valueOf(one).pow(signs));
        return a.compareTo(b);
    }

    private static void scripts(String signs) {
        ClayDisc x = new ClayDisc();
        Check.disc(x, inGroups(signs));
        int unlike = (int) signs.chars().distinct().count();
        int best = unlike;
        for (int n = unlike; n <= 200; n++) {
            best = likelier(n, best, signs.length(), unlike) > 0 ? n : best;
        }
        Check.due("many of " + signs, x.many(), best);
        for (int i = 0; i < 20; i++) {
            int one = 1 + DICE.nextInt(i < 10 ? 20 : 200);
            int other = 1 + DICE.nextInt(i < 10 ? 20 : 200);
            int sign = likelier(one, other, signs.length(), unlike);
            int due = sign > 0 ? 0 : sign < 0 ? 1 : one < unlike && other < unlike ? -2 : 2;
            Check.due("script(" + one + ", " + other + ") of " + signs, x.script(one, other), due);
        }
    }

    /** That waysToSee() is right itself: all draws of up to 5 KINDS in up to 6 signs, one by one. */
    private static void draws() {
        for (int n = 1; n <= 5; n++) {
            for (int signs = 1; signs <= 6; signs++) {
                int[] counted = new int[7];
                int all = (int) Math.pow(n, signs);
                for (int draw = 0; draw < all; draw++) {
                    int seen = 0;
                    for (int i = 0, rest = draw; i < signs; i++, rest /= n) {
                        seen |= 1 << rest % n;
                    }
                    counted[Integer.bitCount(seen)]++;
                }
                for (int unlike = 1; unlike <= 6; unlike++) {
                    Check.due("draws", waysToSee(n, signs, unlike).intValueExact(), counted[unlike]);
                }
            }
        }
    }

    /** All things with m unlike signs of up to nine KINDS, of which THE DISC has the first k. */
    private static void axes() {
        ClayDisc x = new ClayDisc();
        int calls = 0;
        for (int all = 1; all <= 9; all++) {
            for (int k = 0; k <= all; k++) {
                for (int m = 0; m <= all; m++) {
                    for (int s = 0; s <= m; s++) {
                        x = ++calls % 100 == 0 ? new ClayDisc() : x;
                        int so = 0;
                        int things = 0;
                        for (int bits = 0; bits < 1 << all; bits++) {
                            boolean isThing = Integer.bitCount(bits) == m;
                            things += isThing ? 1 : 0;
                            so += isThing && Integer.bitCount(bits & (1 << k) - 1) >= s ? 1 : 0;
                        }
                        String call = "axe(" + all + ", " + k + ", " + m + ", " + s + ")";
                        Check.due(call, x.axe(all, k, m, s), 0);
                        dueFraction(call, x, so, things);
                    }
                }
            }
        }
    }

    /** Two GROUPS of n signs drawn from those of THE DISC with putting back: all draws of both, n at most 2. */
    private static void repeats() {
        for (int i = 0; i < 200; i++) {
            String signs = text("abcde".substring(0, 1 + DICE.nextInt(5)), 4);
            ClayDisc x = new ClayDisc();
            Check.disc(x, signs.substring(0, 2) + "-" + signs.substring(2));
            long alike = 0;
            for (int draw = 0; draw < 256; draw++) {
                char a = signs.charAt(draw & 3);
                char b = signs.charAt(draw >> 2 & 3);
                alike += a == signs.charAt(draw >> 4 & 3) && b == signs.charAt(draw >> 6 & 3) ? 1 : 0;
            }
            boolean same = signs.substring(0, 2).equals(signs.substring(2));
            Check.due("repeat of " + signs, x.repeat(), same ? 1 : 0);
            Check.dueRow("repeat of " + signs, x, 1000000 * alike / 256);
        }
    }
}
