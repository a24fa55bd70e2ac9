import java.math.BigInteger;
import java.util.ArrayList;
import java.util.Arrays;
import java.util.HashMap;
import java.util.HashSet;
import java.util.LinkedHashSet;
import java.util.List;
import java.util.Map;
import java.util.Set;
import java.util.TreeSet;

/** The same document a second time, as plainly as can be: tests compare ClayDisc with it. */
final class Naive {
    static final int MOST = 20000;

    String text = "";
    List<String> disc = new ArrayList<>();
    List<List<String>> tongues = new ArrayList<>();
    int homes = 1;
    int drops = 0;
    boolean back = false;
    List<int[]> overs = new ArrayList<>();
    int[] finds = new int[12];
    List<int[]> claims = new ArrayList<>();
    int random = 1;
    int steps = 0;
    List<Long> row = new ArrayList<>();
    Object[][] kept = new Object[3][];

    Naive() {
        for (int i = 0; i < 4; i++) {
            tongues.add(new ArrayList<>());
        }
    }

    // ---- texts

    int sign(int v) {
        if (text.length() > 76) {
            return -1;
        }
        text += "" + (char) (v >>> 24) + (char) (v >>> 16 & 255) + (char) (v >>> 8 & 255) + (char) (v & 255);
        return text.length();
    }

    boolean end(int n) {
        if (n < 0 || n > text.length()) {
            return false;
        }
        text = text.substring(0, n);
        return true;
    }

    private String takeText() {
        String t = text;
        text = "";
        return t;
    }

    /** A text can go on as a disc, if some sign behind it or its end would do. */
    private static boolean begins(String t) {
        return t.matches("([a-l?]{1,6}-){0,11}[a-l?]{0,6}") && t.length() <= 60;
    }

    private static boolean isDisc(String t) {
        return t.matches("([a-l?]{1,6}-){0,11}[a-l?]{1,6}") && t.length() <= 60;
    }

    static int discFault(String t) {
        if (isDisc(t)) {
            return -1;
        }
        for (int p = 0; p < t.length(); p++) {
            if (!begins(t.substring(0, p + 1))) {
                return p;
            }
        }
        return t.length();
    }

    int disc() {
        String t = takeText();
        int fault = discFault(t);
        if (fault >= 0) {
            return -1 - fault;
        }
        disc = new ArrayList<>(Arrays.asList(t.split("-")));
        overs = new ArrayList<>();
        return disc.size();
    }

    int word(int tongue) {
        String t = takeText();
        if (tongue < 0 || tongue > 3 || tongues.get(tongue).size() == 20) {
            return -100;
        }
        if (!t.matches("[A-H]{1,6}")) {
            int p = 0;
            while (p < t.length() && t.substring(0, p + 1).matches("[A-H]{1,6}")) {
                p++;
            }
            return -1 - p;
        }
        if (tongues.get(tongue).contains(t)) {
            return -101;
        }
        tongues.get(tongue).add(t);
        return tongues.get(tongue).size() - 1;
    }

    int laxness() {
        String t = takeText();
        if (t.matches("h[123]d[012]b?")) {
            homes = t.charAt(1) - '0';
            drops = t.charAt(3) - '0';
            back = t.length() == 5;
            return 0;
        }
        int p = 0;
        while (p < t.length() && t.substring(0, p + 1).matches("h|h[123]|h[123]d|h[123]d[012]b?")) {
            p++;
        }
        return -1 - p;
    }

    int forget(int tongue) {
        if (tongue < 0 || tongue > 3) {
            return -1;
        }
        int n = tongues.get(tongue).size();
        tongues.get(tongue).clear();
        return n;
    }

    private String signs() {
        return String.join("", disc);
    }

    int at(int place) {
        if (place < 0 || place >= signs().length()) {
            return Integer.MIN_VALUE;
        }
        char c = signs().charAt(place);
        return c == '?' ? 12 : c - 'a';
    }

    // ---- readings

    /** All readings of some groups, or null if there are too many steps. A reading has a sign for each kind, '.' for none. */
    List<String> readAll(List<String> groups, int tongue, int mostHomes, int mostDrops, int[] stepsTaken) {
        Set<String> ways = new TreeSet<>();
        ways.add("............");
        int taken = 0;
        for (String group : groups) {
            Set<String> further = new TreeSet<>();
            for (String wayThere : ways) {
                Set<String> on = new LinkedHashSet<>();
                for (String word : tongues.get(tongue)) {
                    String next = goOn(wayThere, group, word, mostHomes, mostDrops);
                    if (next != null) {
                        on.add(next);
                    }
                }
                taken += on.size();
                further.addAll(on);
                if (taken > MOST) {
                    stepsTaken[0] = MOST + 1;
                    return null;
                }
            }
            ways = further;
        }
        stepsTaken[0] = taken;
        return new ArrayList<>(ways);
    }

    private String goOn(String wayThere, String group, String word, int mostHomes, int mostDrops) {
        for (int dropped = 0; dropped <= mostDrops && dropped < word.length(); dropped++) {
            String spelling = word.substring(0, word.length() - dropped);
            if (spelling.length() != group.length()) {
                continue;
            }
            String read = back ? new StringBuilder(group).reverse().toString() : group;
            StringBuilder next = new StringBuilder(wayThere);
            boolean fits = true;
            for (int i = 0; i < read.length(); i++) {
                if (read.charAt(i) == '?') {
                    continue;
                }
                int kind = read.charAt(i) - 'a';
                fits &= next.charAt(kind) == '.' || next.charAt(kind) == spelling.charAt(i);
                next.setCharAt(kind, spelling.charAt(i));
            }
            for (char letter = 'A'; letter <= 'H'; letter++) {
                int homesOf = 0;
                for (int kind = 0; kind < 12; kind++) {
                    homesOf += next.charAt(kind) == letter ? 1 : 0;
                }
                fits &= homesOf <= mostHomes;
            }
            if (fits) {
                return next.toString();
            }
        }
        return null;
    }

    private List<String> readAll(List<String> groups, int tongue) {
        return readAll(groups, tongue, homes, drops, new int[1]);
    }

    private boolean refuses(int tongue) {
        return tongue < 0 || tongue > 3 || disc.isEmpty();
    }

    private void tell(long... numbers) {
        row = new ArrayList<>();
        for (long number : numbers) {
            row.add(number);
        }
    }

    private void tellReading(String reading) {
        row = new ArrayList<>();
        for (int kind = 0; kind < 12; kind++) {
            row.add(reading.charAt(kind) == '.' ? -1L : reading.charAt(kind) - 'A');
        }
    }

    int readings(int tongue) {
        if (refuses(tongue)) {
            return -1;
        }
        int[] taken = new int[1];
        List<String> all = readAll(disc, tongue, homes, drops, taken);
        steps = taken[0];
        if (all == null) {
            return -3;
        }
        row = new ArrayList<>();
        if (!all.isEmpty()) {
            tellReading(all.get(0));
        }
        return all.size();
    }

    int reading(int tongue, int i) {
        if (refuses(tongue) || i < 0 || i > 199) {
            return -1;
        }
        List<String> all = readAll(disc, tongue);
        if (all == null) {
            return -3;
        }
        if (i >= all.size()) {
            return -2;
        }
        tellReading(all.get(i));
        return 0;
    }

    int sure(int tongue) {
        if (refuses(tongue)) {
            return -1;
        }
        List<String> all = readAll(disc, tongue);
        if (all == null) {
            return -3;
        }
        if (all.isEmpty()) {
            return -2;
        }
        int bits = 0;
        row = new ArrayList<>();
        for (int kind = 0; kind < 12; kind++) {
            Set<Character> letters = new HashSet<>();
            for (String reading : all) {
                letters.add(reading.charAt(kind));
            }
            char letter = all.get(0).charAt(kind);
            if (letters.size() == 1 && letter != '.') {
                bits |= 1 << kind;
                row.add((long) (letter - 'A'));
            } else {
                row.add(-1L);
            }
        }
        return bits;
    }

    int letters(int tongue, int kind) {
        if (refuses(tongue) || kind < 0 || kind > 11 || signs().indexOf('a' + kind) < 0) {
            return -1;
        }
        List<String> all = readAll(disc, tongue);
        if (all == null) {
            return -3;
        }
        int bits = 0;
        for (String reading : all) {
            bits |= 1 << reading.charAt(kind) - 'A';
        }
        return bits;
    }

    int means(int tongue, int g) {
        if (refuses(tongue) || g < 0 || g >= disc.size()) {
            return -1;
        }
        List<String> all = readAll(disc, tongue);
        if (all == null) {
            return -3;
        }
        int bits = 0;
        for (String reading : all) {
            for (int w = 0; w < tongues.get(tongue).size(); w++) {
                String same = goOn(reading, disc.get(g), tongues.get(tongue).get(w), homes, drops);
                bits |= reading.equals(same) ? 1 << w : 0;
            }
        }
        return bits;
    }

    int tongues() {
        if (disc.isEmpty()) {
            return -1;
        }
        List<Long> told = new ArrayList<>();
        int best = -2;
        long most = 0;
        for (int tongue = 0; tongue < 4; tongue++) {
            if (tongues.get(tongue).isEmpty()) {
                told.add(-1L);
                continue;
            }
            List<String> all = readAll(disc, tongue);
            if (all == null) {
                return -3;
            }
            told.add((long) all.size());
            if (all.size() > most) {
                most = all.size();
                best = tongue;
            }
        }
        row = told;
        return best;
    }

    int lax(int tongue) {
        if (refuses(tongue)) {
            return -1;
        }
        int[][] tries = {{1, 0}, {2, 0}, {1, 1}, {3, 0}, {2, 1}, {1, 2}, {3, 1}, {2, 2}, {3, 2}};
        for (int[] t : tries) {
            List<String> all = readAll(disc, tongue, t[0], t[1], new int[1]);
            if (all == null) {
                return -3;
            }
            if (!all.isEmpty()) {
                tell(t[0], t[1]);
                return all.size();
            }
        }
        return -2;
    }

    int need(int tongue) {
        if (refuses(tongue)) {
            return -1;
        }
        List<Long> told = new ArrayList<>();
        for (int n = 1; n <= disc.size(); n++) {
            List<String> all = readAll(disc.subList(0, n), tongue);
            if (all == null) {
                return -3;
            }
            told.add((long) all.size());
            if (all.size() <= 1) {
                row = told;
                return n;
            }
        }
        return -2;
    }

    int second(int tongue) {
        String t = takeText();
        if (refuses(tongue)) {
            return -1;
        }
        int fault = discFault(t);
        if (fault >= 0) {
            return -100 - fault;
        }
        List<String> both = new ArrayList<>(disc);
        both.addAll(Arrays.asList(t.split("-")));
        List<String> together = readAll(both, tongue);
        if (together == null) {
            return -3;
        }
        int n = 0;
        for (String reading : readAll(disc, tongue)) {
            boolean goes = false;
            for (String other : together) {
                boolean same = true;
                for (int kind = 0; kind < 12; kind++) {
                    same &= reading.charAt(kind) == '.' || reading.charAt(kind) == other.charAt(kind);
                }
                goes |= same;
            }
            n += goes ? 1 : 0;
        }
        tell(together.size());
        return n;
    }

    private int draw(int n) {
        random = random * 1103515245 + 12345;
        return (int) ((random & 0xFFFFFFFFL) / 65536 % n);
    }

    private List<String> shuffled() {
        char[] all = signs().toCharArray();
        for (int i = all.length - 1; i >= 1; i--) {
            int j = draw(i + 1);
            char c = all[i];
            all[i] = all[j];
            all[j] = c;
        }
        List<String> groups = new ArrayList<>();
        int p = 0;
        for (String group : disc) {
            groups.add(new String(all, p, group.length()));
            p += group.length();
        }
        return groups;
    }

    int chance(int tongue, int n) {
        if (refuses(tongue) || n < 1 || n > 12) {
            return -1;
        }
        int was = random;
        List<Long> told = new ArrayList<>();
        int good = 0;
        for (int i = 0; i < n; i++) {
            List<String> all = readAll(shuffled(), tongue);
            if (all == null) {
                random = was;
                return -3;
            }
            told.add((long) all.size());
            good += all.isEmpty() ? 0 : 1;
        }
        row = told;
        return good;
    }

    int next(int tongue) {
        if (refuses(tongue)) {
            return -1;
        }
        List<String> all = readAll(disc, tongue);
        if (all == null) {
            return -3;
        }
        int best = -2;
        int fewest = Integer.MAX_VALUE;
        for (int kind = 0; kind < 12; kind++) {
            if (signs().indexOf('a' + kind) < 0 || all.isEmpty()) {
                continue;
            }
            int worst = 0;
            for (char letter = 'A'; letter <= 'H'; letter++) {
                int left = 0;
                for (String reading : all) {
                    left += reading.charAt(kind) == letter ? 1 : 0;
                }
                worst = Math.max(worst, left);
            }
            if (worst < fewest) {
                fewest = worst;
                best = kind;
            }
        }
        if (best >= 0) {
            tell(fewest);
        }
        return best;
    }

    int blind(int tongue, int kinds) {
        if (refuses(tongue) || kinds < 0 || kinds > 4095) {
            return -1;
        }
        List<String> groups = new ArrayList<>();
        for (String group : disc) {
            String hidden = group;
            for (int kind = 0; kind < 12; kind++) {
                hidden = (kinds >> kind & 1) != 0 ? hidden.replace((char) ('a' + kind), '?') : hidden;
            }
            groups.add(hidden);
        }
        List<String> all = readAll(groups, tongue);
        return all == null ? -3 : all.size();
    }

    // ---- orders

    int over(int behind, int ahead) {
        int places = signs().length();
        if (behind < 0 || behind >= places || ahead < 0 || ahead >= places || behind == ahead || overs.size() == 12) {
            return -1;
        }
        for (int[] o : overs) {
            if (o[0] == behind && o[1] == ahead) {
                return -1;
            }
        }
        overs.add(new int[] {behind, ahead});
        return overs.size();
    }

    private boolean cannotOrder() {
        return signs().isEmpty() || signs().length() > 14;
    }

    /** Orders that begin with a set of places, place by place, those behind it counted once for each set. */
    private long countOrders(int pressed, List<int[]> rules, Map<Integer, Long> known) {
        int places = signs().length();
        if (pressed == (1 << places) - 1) {
            return 1;
        }
        Long had = known.get(pressed);
        if (had != null) {
            return had;
        }
        long n = 0;
        for (int p = 0; p < places; p++) {
            boolean free = (pressed >> p & 1) == 0;
            for (int[] rule : rules) {
                free &= rule[0] != p || (pressed >> rule[1] & 1) != 0;
            }
            n += free ? countOrders(pressed | 1 << p, rules, known) : 0;
        }
        known.put(pressed, n);
        return n;
    }

    private long orderCount(List<int[]> rules) {
        return countOrders(0, rules, new HashMap<>());
    }

    private void tellFraction(BigInteger upper, BigInteger lower) {
        BigInteger g = upper.gcd(lower);
        tell(upper.divide(g).longValueExact(), lower.divide(g).longValueExact());
    }

    int orders() {
        if (cannotOrder()) {
            return -1;
        }
        long n = orderCount(overs);
        if (n == 0) {
            return -2;
        }
        tell(n);
        return 0;
    }

    private List<int[]> with(int behind, int ahead) {
        List<int[]> rules = new ArrayList<>(overs);
        rules.add(new int[] {behind, ahead});
        return rules;
    }

    int ahead(int place, int other) {
        int places = signs().length();
        if (cannotOrder() || place < 0 || place >= places || other < 0 || other >= places || place == other) {
            return -1;
        }
        long n = orderCount(overs);
        if (n == 0) {
            return -2;
        }
        tellFraction(BigInteger.valueOf(orderCount(with(other, place))), BigInteger.valueOf(n));
        return 0;
    }

    int ends(int what) {
        if (cannotOrder() || what < 0 || what > 1) {
            return -1;
        }
        if (orderCount(overs) == 0) {
            return -2;
        }
        int places = signs().length();
        int bits = 0;
        for (int p = 0; p < places; p++) {
            List<int[]> rules = new ArrayList<>(overs);
            for (int q = 0; q < places; q++) {
                if (q != p) {
                    rules.add(what == 0 ? new int[] {q, p} : new int[] {p, q});
                }
            }
            bits |= orderCount(rules) > 0 ? 1 << p : 0;
        }
        return bits;
    }

    private int[] wayCounts() {
        int[] n = new int[2];
        int first = 0;
        for (String group : disc) {
            int last = first + group.length() - 1;
            for (int[] o : overs) {
                boolean inside = o[0] >= first && o[0] <= last && o[1] >= first && o[1] <= last;
                n[0] += inside && o[0] == o[1] + 1 ? 1 : 0;
                n[1] += inside && o[1] == o[0] + 1 ? 1 : 0;
            }
            first = last + 1;
        }
        return n;
    }

    int way() {
        int[] n = wayCounts();
        tell(n[0], n[1]);
        return n[0] == n[1] ? 0 : n[0] > n[1] ? 1 : 2;
    }

    int lot() {
        int[] n = wayCounts();
        int all = n[0] + n[1];
        int so = 0;
        for (int bits = 0; bits < 1 << all; bits++) {
            int one = Integer.bitCount(bits);
            so += one >= Math.max(n[0], n[1]) || all - one >= Math.max(n[0], n[1]) ? 1 : 0;
        }
        tellFraction(BigInteger.valueOf(so), BigInteger.valueOf(1 << all));
        return 0;
    }

    private boolean ring(List<int[]> rules) {
        boolean[][] reach = new boolean[60][60];
        for (int[] rule : rules) {
            reach[rule[0]][rule[1]] = true;
        }
        for (int k = 0; k < 60; k++) {
            for (int i = 0; i < 60; i++) {
                if (reach[i][k]) {
                    for (int j = 0; j < 60; j++) {
                        reach[i][j] |= reach[k][j];
                    }
                }
            }
        }
        for (int i = 0; i < 60; i++) {
            if (reach[i][i]) {
                return true;
            }
        }
        return false;
    }

    int mend() {
        for (int n = 0; n <= overs.size(); n++) {
            for (int bits = 0; bits < 1 << overs.size(); bits++) {
                if (Integer.bitCount(bits) != n) {
                    continue;
                }
                List<int[]> rules = new ArrayList<>();
                for (int i = 0; i < overs.size(); i++) {
                    if ((bits >> i & 1) == 0) {
                        rules.add(overs.get(i));
                    }
                }
                if (!ring(rules)) {
                    tell(bits);
                    return n;
                }
            }
        }
        throw new IllegalStateException();
    }

    // ---- kinds, repeats

    private int often(char c) {
        return (int) signs().chars().filter(s -> s == c).count();
    }

    int kinds() {
        row = new ArrayList<>();
        for (char c = 'a'; c <= 'l'; c++) {
            row.add((long) often(c));
        }
        row.add((long) often('?'));
        return seen();
    }

    private int seen() {
        return (int) signs().replace("?", "").chars().distinct().count();
    }

    private int clearSigns() {
        return signs().replace("?", "").length();
    }

    /** Of n kinds, in how many ways just the unlike ones seen come; upper and lower number of the chance (but for a factor). */
    private BigInteger[] likelihood(int n) {
        BigInteger upper = BigInteger.ONE;
        for (int i = 0; i < seen(); i++) {
            upper = upper.multiply(BigInteger.valueOf(Math.max(0, n - i)));
        }
        return new BigInteger[] {upper, BigInteger.valueOf(n).pow(clearSigns())};
    }

    private int compareLikelihood(int one, int other) {
        BigInteger[] a = likelihood(one);
        BigInteger[] b = likelihood(other);
        return a[0].multiply(b[1]).compareTo(b[0].multiply(a[1]));
    }

    int many() {
        if (seen() == 0) {
            return -1;
        }
        int best = seen();
        for (int n = seen(); n <= 200; n++) {
            best = compareLikelihood(n, best) > 0 ? n : best;
        }
        return best;
    }

    int script(int one, int other) {
        if (seen() == 0 || one < 1 || one > 200 || other < 1 || other > 200) {
            return -1;
        }
        if (one < seen() && other < seen()) {
            return -2;
        }
        int c = compareLikelihood(one, other);
        return c == 0 ? 2 : c > 0 ? 0 : 1;
    }

    int like() {
        String s = signs().replace("?", "");
        if (s.length() < 2) {
            return -1;
        }
        int alike = 0;
        int all = 0;
        for (int i = 0; i < s.length(); i++) {
            for (int j = 0; j < i; j++) {
                all++;
                alike += s.charAt(i) == s.charAt(j) ? 1 : 0;
            }
        }
        tellFraction(BigInteger.valueOf(alike), BigInteger.valueOf(all));
        return 0;
    }

    int repeat() {
        if (disc.isEmpty()) {
            return -1;
        }
        int squares = 0;
        for (char c = 'a'; c <= 'l'; c++) {
            squares += often(c) * often(c);
        }
        BigInteger lower = BigInteger.valueOf((long) clearSigns() * clearSigns());
        int alike = 0;
        BigInteger sum = BigInteger.ZERO;
        for (int i = 0; i < disc.size(); i++) {
            for (int j = 0; j < i; j++) {
                String one = disc.get(i);
                String other = disc.get(j);
                if (one.length() == other.length() && !one.contains("?") && !other.contains("?")) {
                    alike += one.equals(other) ? 1 : 0;
                    sum = sum.add(BigInteger.valueOf(1000000).multiply(BigInteger.valueOf(squares).pow(one.length()))
                        .divide(lower.pow(one.length())));
                }
            }
        }
        tell(sum.longValueExact());
        return alike;
    }

    int rhyme(int what, int n) {
        if (what < 0 || what > 1 || n < 1 || n > 3) {
            return -1;
        }
        int pairs = 0;
        int bits = 0;
        for (int i = 0; i < disc.size(); i++) {
            for (int j = 0; j < i; j++) {
                String one = disc.get(i);
                String other = disc.get(j);
                if (one.length() < n || other.length() < n) {
                    continue;
                }
                String same = what == 0 ? one.substring(one.length() - n) : one.substring(0, n);
                if (!same.contains("?") && (what == 0 ? other.endsWith(same) : other.startsWith(same))) {
                    pairs++;
                    bits |= 1 << i | 1 << j;
                }
            }
        }
        tell(bits);
        return pairs;
    }

    private static BigInteger choose(int n, int k) {
        if (k < 0 || k > n) {
            return BigInteger.ZERO;
        }
        BigInteger up = BigInteger.ONE;
        BigInteger down = BigInteger.ONE;
        for (int i = 0; i < k; i++) {
            up = up.multiply(BigInteger.valueOf(n - i));
            down = down.multiply(BigInteger.valueOf(i + 1));
        }
        return up.divide(down);
    }

    int axe(int all, int k, int m, int s) {
        if (all < 1 || all > 45 || k < 0 || k > all || m < 0 || m > all || s < 0 || s > m) {
            return -1;
        }
        BigInteger so = BigInteger.ZERO;
        for (int j = s; j <= m; j++) {
            so = so.add(choose(k, j).multiply(choose(all - k, m - j)));
        }
        tellFraction(so, choose(all, m));
        return 0;
    }

    // ---- claims

    int claim() {
        if (claims.size() == 10) {
            return -1;
        }
        claims.add(new int[12]);
        return claims.size() - 1;
    }

    private boolean isClaim(int claim) {
        return claim >= 0 && claim < claims.size();
    }

    int says(int claim, int find, int v) {
        if (!isClaim(claim) || find < 0 || find > 11 || v < 0 || v > 2) {
            return -1;
        }
        int was = claims.get(claim)[find];
        claims.get(claim)[find] = v;
        return was;
    }

    int sheet(int claim, int kind, int n, int f, int step) {
        if (!isClaim(claim) || kind < 0 || kind > 3 || n > 12) {
            return -1;
        }
        if (kind == 3) {
            Arrays.fill(claims.get(claim), 0);
            return -3;
        }
        if (n < 0) {
            return -2;
        }
        int something = 0;
        Arrays.fill(claims.get(claim), 0);
        for (int i = 0; i < n; i++) {
            int entry = (int) ((long) f + (long) i * step);
            int cut = kind == 0 ? (byte) entry : kind == 1 ? (short) entry : entry;
            claims.get(claim)[i] = ((cut % 3) + 3) % 3;
            something += claims.get(claim)[i] != 0 ? 1 : 0;
        }
        return something;
    }

    int find(int find, int v) {
        if (find < 0 || find > 11 || v < 0 || v > 2) {
            return -1;
        }
        int was = finds[find];
        finds[find] = v;
        return was;
    }

    private boolean stands(int claim, int[] known) {
        for (int f = 0; f < 12; f++) {
            int v = claims.get(claim)[f];
            if (v == 1 && known[f] == 2 || v == 2 && known[f] == 1) {
                return false;
            }
        }
        return true;
    }

    private List<Integer> standing(int[] known) {
        List<Integer> list = new ArrayList<>();
        for (int c = 0; c < claims.size(); c++) {
            if (stands(c, known)) {
                list.add(c);
            }
        }
        return list;
    }

    int stand() {
        int bits = 0;
        for (int c : standing(finds)) {
            bits |= 1 << c;
        }
        return bits;
    }

    int risks(int claim) {
        if (!isClaim(claim)) {
            return -1;
        }
        int n = 0;
        int bits = 0;
        for (int f = 0; f < 12; f++) {
            if (finds[f] != 0 || claims.get(claim)[f] == 0) {
                continue;
            }
            n++;
            boolean alone = true;
            for (int c : standing(finds)) {
                alone &= c == claim || claims.get(c)[f] != claims.get(claim)[f];
            }
            bits |= alone ? 1 << f : 0;
        }
        tell(bits);
        return n;
    }

    int idle() {
        int bits = 0;
        for (int c : standing(finds)) {
            boolean safe = true;
            for (int f = 0; f < 12; f++) {
                for (int v = 1; v <= 2; v++) {
                    int[] later = finds.clone();
                    later[f] = later[f] == 0 ? v : later[f];
                    safe &= stands(c, later);
                }
            }
            bits |= safe ? 1 << c : 0;
        }
        return bits;
    }

    int seek() {
        if (standing(finds).isEmpty()) {
            return -1;
        }
        int best = -2;
        int fewest = 99;
        for (int f = 0; f < 12; f++) {
            if (finds[f] != 0) {
                continue;
            }
            int worst = 0;
            for (int v = 1; v <= 2; v++) {
                int[] later = finds.clone();
                later[f] = v;
                worst = Math.max(worst, standing(later).size());
            }
            if (worst < fewest) {
                fewest = worst;
                best = f;
            }
        }
        if (best >= 0) {
            tell(fewest);
        }
        return best;
    }

    private boolean parts(int f, int one, int other) {
        int a = claims.get(one)[f];
        int b = claims.get(other)[f];
        return a == 1 && b == 2 || a == 2 && b == 1;
    }

    int part() {
        List<Integer> list = standing(finds);
        for (int n = 0; n <= 12; n++) {
            for (int bits = 0; bits < 4096; bits++) {
                if (Integer.bitCount(bits) == n && allUnknown(bits) && partsAll(bits, list)) {
                    tell(bits);
                    return n;
                }
            }
        }
        return -2;
    }

    private boolean allUnknown(int bits) {
        for (int f = 0; f < 12; f++) {
            if ((bits >> f & 1) != 0 && finds[f] != 0) {
                return false;
            }
        }
        return true;
    }

    private boolean partsAll(int bits, List<Integer> list) {
        for (int one : list) {
            for (int other : list) {
                boolean parted = one >= other;
                for (int f = 0; f < 12 && !parted; f++) {
                    parted = (bits >> f & 1) != 0 && parts(f, one, other);
                }
                if (!parted) {
                    return false;
                }
            }
        }
        return true;
    }

    int plan() {
        int spoken = 0;
        List<Integer> said = new ArrayList<>();
        for (int f = 0; f < 12; f++) {
            boolean some = false;
            for (int c : standing(finds)) {
                some |= finds[f] == 0 && claims.get(c)[f] != 0;
            }
            if (some) {
                said.add(f);
            }
            spoken += some ? 1 : 0;
        }
        return spoken > 8 ? -3 : planFrom(finds, said, new HashMap<>());
    }

    /** By what each find is known to be, so that nothing about which of them matter is taken for granted. */
    private int planFrom(int[] known, List<Integer> said, Map<String, Integer> had) {
        String key = Arrays.toString(known);
        if (had.containsKey(key)) {
            return had.get(key);
        }
        int answer = 0;
        if (canBeParted(known)) {
            answer = 99;
            for (int f : said) {
                if (known[f] != 0) {
                    continue;
                }
                int worst = 0;
                for (int v = 1; v <= 2; v++) {
                    int[] later = known.clone();
                    later[f] = v;
                    worst = Math.max(worst, 1 + planFrom(later, said, had));
                }
                answer = Math.min(answer, worst);
            }
        }
        had.put(key, answer);
        return answer;
    }

    private boolean canBeParted(int[] known) {
        List<Integer> list = standing(known);
        for (int f = 0; f < 12; f++) {
            for (int one : list) {
                for (int other : list) {
                    if (known[f] == 0 && parts(f, one, other)) {
                        return true;
                    }
                }
            }
        }
        return false;
    }

    // ---- kept

    int seed(int v) {
        int was = random;
        random = v;
        return was;
    }

    boolean keep(int i) {
        if (i < 0 || i > 2) {
            return false;
        }
        kept[i] = new Object[] {new ArrayList<>(disc), new ArrayList<>(overs), homes, drops, back, finds.clone()};
        return true;
    }

    @SuppressWarnings("unchecked")
    boolean again(int i) {
        if (i < 0 || i > 2 || kept[i] == null) {
            return false;
        }
        disc = new ArrayList<>((List<String>) kept[i][0]);
        overs = new ArrayList<>((List<int[]>) kept[i][1]);
        homes = (Integer) kept[i][2];
        drops = (Integer) kept[i][3];
        back = (Boolean) kept[i][4];
        finds = ((int[]) kept[i][5]).clone();
        return true;
    }

    int count(int what) {
        int[] all = {disc.size(), signs().length(), tongues.get(0).size(), tongues.get(1).size(), tongues.get(2).size(),
            tongues.get(3).size(), homes, drops, back ? 1 : 0, overs.size(), claims.size(), row.size(), text.length(), steps};
        return what < 0 || what >= all.length ? -1 : all[what];
    }
}
