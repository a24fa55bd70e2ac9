import java.util.NoSuchElementException;

/**
 * A disc of clay whose signs nobody can read: the readings that tongues of words let, the orders in which its
 * signs can have been pressed, how many kinds there were, what comes again, and claims with what they risk.
 */
public final class ClayDisc {
    public static final int NONE = -1;

    private static final int NOTHING = -2;
    private static final int TOO_MUCH = -3;
    private static final int FULL = -100;
    private static final int KNOWN_WORD = -101;

    private static final int MOST_TEXT = 80;
    private static final int MOST_SIGNS = 60;
    private static final int MOST_GROUPS = 12;
    private static final int GROUP_LENGTH = 6;
    private static final int KINDS = 12;
    private static final int UNSEEN = 12;
    private static final int TONGUES = 4;
    private static final int MOST_WORDS = 20;
    private static final int WORD_LENGTH = 6;
    private static final int LETTERS = 8;
    private static final int MOST_HOMES = 3;
    private static final int MOST_DROPS = 2;
    private static final int MOST_STEPS = 20000;
    private static final int MOST_LEVELS = 2 * MOST_GROUPS;
    private static final int SORTED = 200;
    private static final int MOST_TEXTS_AT_CHANCE = 12;
    private static final int MOST_OVERS = 12;
    private static final int ORDERED_PLACES = 14;
    private static final int SCRIPT_KINDS = 200;
    private static final int AXE_KINDS = 45;
    private static final int RHYME_LENGTH = 3;
    private static final int PARTS = 1000000;
    private static final int MOST_CLAIMS = 10;
    private static final int FINDS = 12;
    private static final int PLANNED_FINDS = 8;
    private static final int KEPT = 3;

    private static final int COUNT_THEM = 0;
    private static final int TALLY_LETTERS = 1;
    private static final int SORT_THEM = 2;
    private static final int NOTE_WORDS = 3;
    private static final int SPLIT_AT = 4;

    private static final long MISSPELT = -1L;

    private final Text text;
    private final Told told;
    private final Told[] kept;
    private final boolean[] filled;
    private final Tongue[] lexicon;
    private final Row numbers;
    private final Row draft;
    private final Disc spare;
    private final Ways ways;
    private final Reader reader;
    private final Orders table;
    private final Claims claims;
    private final Big left;
    private final Big right;
    private final int[] often;
    private int random;
    private int latestSteps;

    public ClayDisc() {
        text = new Text();
        told = new Told();
        kept = new Told[KEPT];
        for (int i = 0; i < KEPT; i++) {
            kept[i] = new Told();
        }
        filled = new boolean[KEPT];
        lexicon = new Tongue[TONGUES];
        for (int i = 0; i < TONGUES; i++) {
            lexicon[i] = new Tongue();
        }
        numbers = new Row();
        draft = new Row();
        spare = new Disc();
        ways = new Ways();
        reader = new Reader(ways);
        table = new Orders();
        claims = new Claims();
        left = new Big();
        right = new Big();
        often = new int[KINDS + 1];
        random = 1;
        latestSteps = 0;
    }

    // ---- texts

    public int sign(int v) {
        if (text.size + 4 > MOST_TEXT) {
            return NONE;
        }
        for (int shift = 24; shift >= 0; shift -= 8) {
            text.push((v >>> shift) & 255);
        }
        return text.size;
    }

    public boolean end(int n) {
        if (n < 0 || n > text.size) {
            return false;
        }
        text.size = n;
        return true;
    }

    public int disc() {
        int fault = text.faultAsDisc();
        if (fault == NONE) {
            told.disc.fill(text);
            told.overs.size = 0;
        }
        text.size = 0;
        return fault == NONE ? told.disc.groups : -1 - fault;
    }

    public int word(int tongue) {
        int answer = FULL;
        if (isTongue(tongue) && lexicon[tongue].size < MOST_WORDS) {
            answer = learn(lexicon[tongue]);
        }
        text.size = 0;
        return answer;
    }

    private int learn(Tongue tongue) {
        int fault = text.faultAsWord();
        if (fault != NONE) {
            return -1 - fault;
        }
        return tongue.has(text) ? KNOWN_WORD : tongue.add(text);
    }

    public int laxness() {
        int fault = text.faultAsLaxness();
        if (fault == NONE) {
            told.homes = text.signs[1] - '0';
            told.drops = text.signs[3] - '0';
            told.back = text.size > 4;
        }
        text.size = 0;
        return fault == NONE ? 0 : -1 - fault;
    }

    public int forget(int tongue) {
        if (!isTongue(tongue)) {
            return NONE;
        }
        int gone = lexicon[tongue].size;
        lexicon[tongue].size = 0;
        return gone;
    }

    public int at(int place) throws NoSuchElementException {
        if (!isPlace(place)) {
            throw new NoSuchElementException();
        }
        return told.disc.kinds[place];
    }

    private boolean isTongue(int tongue) {
        return tongue >= 0 && tongue < TONGUES;
    }

    private boolean isPlace(int place) {
        return place >= 0 && place < told.disc.places;
    }

    // ---- readings

    public int readings(int tongue) {
        if (cannotRead(tongue)) {
            return NONE;
        }
        read(told.disc, tongue, COUNT_THEM, 0);
        latestSteps = reader.steps;
        if (reader.tooMany()) {
            return TOO_MUCH;
        }
        numbers.size = 0;
        if (reader.found > 0) {
            tellLetters(reader.least);
        }
        return reader.found;
    }

    public int reading(int tongue, int i) {
        if (cannotRead(tongue) || i < 0 || i >= SORTED) {
            return NONE;
        }
        read(told.disc, tongue, SORT_THEM, i + 1);
        if (reader.tooMany()) {
            return TOO_MUCH;
        }
        if (i >= reader.found) {
            return NOTHING;
        }
        numbers.size = 0;
        tellLetters(reader.sorted[i]);
        return 0;
    }

    public int sure(int tongue) {
        if (cannotRead(tongue)) {
            return NONE;
        }
        read(told.disc, tongue, TALLY_LETTERS, 0);
        if (reader.tooMany()) {
            return TOO_MUCH;
        }
        if (reader.found == 0) {
            return NOTHING;
        }
        int bits = 0;
        numbers.size = 0;
        for (int kind = 0; kind < KINDS; kind++) {
            boolean same = Integer.bitCount(reader.lettersOf(kind)) == 1;
            bits |= same ? 1 << kind : 0;
            numbers.put(same ? letterIn(reader.least, kind) : NONE);
        }
        return bits;
    }

    public int letters(int tongue, int kind) {
        if (cannotRead(tongue) || kind < 0 || kind >= KINDS || (told.disc.kindBits() >> kind & 1) == 0) {
            return NONE;
        }
        read(told.disc, tongue, TALLY_LETTERS, 0);
        return reader.tooMany() ? TOO_MUCH : reader.lettersOf(kind);
    }

    public int means(int tongue, int g) {
        if (cannotRead(tongue) || g < 0 || g >= told.disc.groups) {
            return NONE;
        }
        read(told.disc, tongue, NOTE_WORDS, g);
        return reader.tooMany() ? TOO_MUCH : reader.wordBits;
    }

    public int tongues() {
        if (told.disc.groups == 0) {
            return NONE;
        }
        draft.size = 0;
        int best = NOTHING;
        int most = 0;
        for (int tongue = 0; tongue < TONGUES; tongue++) {
            if (lexicon[tongue].size == 0) {
                draft.put(NONE);
                continue;
            }
            read(told.disc, tongue, COUNT_THEM, 0);
            if (reader.tooMany()) {
                return TOO_MUCH;
            }
            draft.put(reader.found);
            if (reader.found > most) {
                most = reader.found;
                best = tongue;
            }
        }
        numbers.take(draft);
        return best;
    }

    public int lax(int tongue) {
        if (cannotRead(tongue)) {
            return NONE;
        }
        for (int both = 1; both <= MOST_HOMES + MOST_DROPS; both++) {
            for (int drops = 0; drops <= MOST_DROPS; drops++) {
                int homes = both - drops;
                if (homes < 1 || homes > MOST_HOMES) {
                    continue;
                }
                ways.open(homes, drops, told.back);
                ways.add(told.disc, lexicon[tongue]);
                reader.run(ways.size, COUNT_THEM, 0);
                if (reader.tooMany()) {
                    return TOO_MUCH;
                }
                if (reader.found > 0) {
                    numbers.tell(homes, drops);
                    return reader.found;
                }
            }
        }
        return NOTHING;
    }

    public int need(int tongue) {
        if (cannotRead(tongue)) {
            return NONE;
        }
        ways.open(told.homes, told.drops, told.back);
        ways.add(told.disc, lexicon[tongue]);
        draft.size = 0;
        for (int groups = 1; groups <= ways.size; groups++) {
            reader.run(groups, COUNT_THEM, 0);
            if (reader.tooMany()) {
                return TOO_MUCH;
            }
            draft.put(reader.found);
            if (reader.found <= 1) {
                numbers.take(draft);
                return groups;
            }
        }
        return NOTHING;
    }

    public int second(int tongue) {
        int fault = text.faultAsDisc();
        if (fault == NONE) {
            spare.fill(text);
        }
        text.size = 0;
        if (cannotRead(tongue)) {
            return NONE;
        }
        if (fault != NONE) {
            return -100 - fault;
        }
        ways.open(told.homes, told.drops, told.back);
        ways.add(told.disc, lexicon[tongue]);
        ways.add(spare, lexicon[tongue]);
        reader.run(ways.size, SPLIT_AT, told.disc.groups);
        if (reader.tooMany()) {
            return TOO_MUCH;
        }
        numbers.tell(reader.found);
        return reader.held;
    }

    public int chance(int tongue, int n) {
        if (cannotRead(tongue) || n < 1 || n > MOST_TEXTS_AT_CHANCE) {
            return NONE;
        }
        int randomAhead = random;
        int readable = 0;
        draft.size = 0;
        for (int i = 0; i < n; i++) {
            spare.take(told.disc);
            shuffle(spare);
            read(spare, tongue, COUNT_THEM, 0);
            if (reader.tooMany()) {
                random = randomAhead;
                return TOO_MUCH;
            }
            draft.put(reader.found);
            readable += reader.found > 0 ? 1 : 0;
        }
        numbers.take(draft);
        return readable;
    }

    public int next(int tongue) {
        if (cannotRead(tongue)) {
            return NONE;
        }
        read(told.disc, tongue, TALLY_LETTERS, 0);
        if (reader.tooMany()) {
            return TOO_MUCH;
        }
        int best = NOTHING;
        int fewest = 0;
        for (int kind = 0; kind < KINDS; kind++) {
            int worst = reader.worstOf(kind);
            // A kind that no reading has leaves nothing at worst: it must not win by that.
            if (worst > 0 && (best == NOTHING || worst < fewest)) {
                best = kind;
                fewest = worst;
            }
        }
        if (best != NOTHING) {
            numbers.tell(fewest);
        }
        return best;
    }

    public int blind(int tongue, int kinds) {
        if (cannotRead(tongue) || kinds < 0 || kinds >= 1 << KINDS) {
            return NONE;
        }
        spare.take(told.disc);
        spare.hide(kinds);
        read(spare, tongue, COUNT_THEM, 0);
        return reader.tooMany() ? TOO_MUCH : reader.found;
    }

    private boolean cannotRead(int tongue) {
        return !isTongue(tongue) || told.disc.groups == 0;
    }

    private void read(Disc disc, int tongue, int mode, int detail) {
        ways.open(told.homes, told.drops, told.back);
        ways.add(disc, lexicon[tongue]);
        reader.run(ways.size, mode, detail);
    }

    private void tellLetters(long code) {
        for (int kind = 0; kind < KINDS; kind++) {
            numbers.put(letterIn(code, kind));
        }
    }

    private void shuffle(Disc disc) {
        for (int i = disc.places - 1; i >= 1; i--) {
            int j = draw(i + 1);
            int kind = disc.kinds[i];
            disc.kinds[i] = disc.kinds[j];
            disc.kinds[j] = kind;
        }
    }

    private int draw(int n) {
        random = random * 1103515245 + 12345;
        return n > 0 ? (random >>> 16) % n : 0;
    }

    /** Kind a stands highest, so that codes are in order as readings are. */
    private static int shiftOf(int kind) {
        return 4 * (KINDS - 1 - kind);
    }

    private static int letterIn(long code, int kind) {
        return (int) (code >>> shiftOf(kind) & 15) - 1;
    }

    // ---- orders

    public int over(int behind, int ahead) {
        if (!isPlace(behind) || !isPlace(ahead) || behind == ahead) {
            return NONE;
        }
        if (told.overs.size >= MOST_OVERS || told.overs.has(behind, ahead)) {
            return NONE;
        }
        return told.overs.add(behind, ahead);
    }

    public int orders() {
        if (cannotOrder()) {
            return NONE;
        }
        table.open(told.disc.places, told.overs);
        long all = table.number();
        if (all == 0) {
            return NOTHING;
        }
        numbers.tell(all);
        return 0;
    }

    public int ahead(int place, int other) {
        if (cannotOrder() || !isPlace(place) || !isPlace(other) || place == other) {
            return NONE;
        }
        table.open(told.disc.places, told.overs);
        long all = table.number();
        if (all == 0) {
            return NOTHING;
        }
        table.bind(other, place);
        numbers.tellFraction(table.number(), all);
        return 0;
    }

    public int ends(int what) {
        if (cannotOrder() || what < 0 || what > 1) {
            return NONE;
        }
        if (!told.overs.ringFree(told.overs.all())) {
            return NOTHING;
        }
        int bits = (1 << told.disc.places) - 1;
        for (int i = 0; i < told.overs.size; i++) {
            bits &= ~(1 << (what == 0 ? told.overs.behind[i] : told.overs.before[i]));
        }
        return bits;
    }

    public int way() {
        int greater = neighbours(true);
        int lesser = neighbours(false);
        numbers.tell(greater, lesser);
        if (greater == lesser) {
            return 0;
        }
        return greater > lesser ? 1 : 2;
    }

    public int lot() {
        int greater = neighbours(true);
        int lesser = neighbours(false);
        int all = greater + lesser;
        int more = Math.max(greater, lesser);
        long so = 0;
        for (int one = 0; one <= all; one++) {
            so += Math.max(one, all - one) >= more ? choose(all, one) : 0;
        }
        numbers.tellFraction(so, 1L << all);
        return 0;
    }

    public int mend() {
        Overs overs = told.overs;
        int all = overs.all();
        int fewest = MOST_OVERS + 1;
        int out = 0;
        for (int bits = 0; bits <= all; bits++) {
            if (Integer.bitCount(bits) < fewest && overs.ringFree(all & ~bits)) {
                fewest = Integer.bitCount(bits);
                out = bits;
            }
        }
        numbers.tell(out);
        return fewest;
    }

    private boolean cannotOrder() {
        return told.disc.places == 0 || told.disc.places > ORDERED_PLACES;
    }

    private int neighbours(boolean greaterBehind) {
        int n = 0;
        for (int i = 0; i < told.overs.size; i++) {
            int behind = told.overs.behind[i];
            int before = told.overs.before[i];
            int apart = greaterBehind ? behind - before : before - behind;
            if (apart == 1 && told.disc.groupOf[behind] == told.disc.groupOf[before]) {
                n++;
            }
        }
        return n;
    }

    private static long choose(int n, int k) {
        if (k < 0 || k > n) {
            return 0;
        }
        long product = 1;
        for (int i = 1; i <= k; i++) {
            product = product * (n - k + i) / i;
        }
        return product;
    }

    // ---- kinds, repeats

    public int kinds() {
        told.disc.countKinds(often);
        numbers.size = 0;
        for (int kind = 0; kind <= UNSEEN; kind++) {
            numbers.put(often[kind]);
        }
        return unlikeKinds();
    }

    public int many() {
        told.disc.countKinds(often);
        int seen = unlikeKinds();
        if (seen == 0) {
            return NONE;
        }
        int best = seen;
        // The likelihood rises to one summit and falls ever after, so the first step that gains nothing ends it.
        while (best < SCRIPT_KINDS && likelier(best + 1, best, seen) > 0) {
            best++;
        }
        return best;
    }

    public int script(int one, int other) {
        told.disc.countKinds(often);
        int seen = unlikeKinds();
        if (seen == 0 || one < 1 || one > SCRIPT_KINDS || other < 1 || other > SCRIPT_KINDS) {
            return NONE;
        }
        if (one < seen || other < seen) {
            return oneIsTooSmall(one, other, seen);
        }
        int sign = likelier(one, other, seen);
        if (sign == 0) {
            return 2;
        }
        return sign > 0 ? 0 : 1;
    }

    private static int oneIsTooSmall(int one, int other, int seen) {
        if (one < seen && other < seen) {
            return NOTHING;
        }
        return one < seen ? 1 : 0;
    }

    public int like() {
        told.disc.countKinds(often);
        int signs = seenSigns();
        if (signs < 2) {
            return NONE;
        }
        long alike = 0;
        for (int kind = 0; kind < KINDS; kind++) {
            alike += choose(often[kind], 2);
        }
        numbers.tellFraction(alike, choose(signs, 2));
        return 0;
    }

    public int repeat() {
        Disc disc = told.disc;
        if (disc.groups == 0) {
            return NONE;
        }
        disc.countKinds(often);
        int alike = 0;
        long expected = 0;
        for (int length = 1; length <= GROUP_LENGTH; length++) {
            int pairs = 0;
            for (int g = 0; g < disc.groups; g++) {
                for (int h = g + 1; h < disc.groups; h++) {
                    if (disc.clear(g, length) && disc.clear(h, length)) {
                        pairs++;
                        alike += disc.sameSigns(disc.start[g], disc.start[h], length) ? 1 : 0;
                    }
                }
            }
            expected += pairs > 0 ? pairs * shareToPower(length) : 0;
        }
        numbers.tell(expected);
        return alike;
    }

    public int rhyme(int what, int n) {
        if (what < 0 || what > 1 || n < 1 || n > RHYME_LENGTH) {
            return NONE;
        }
        Disc disc = told.disc;
        int pairs = 0;
        int bits = 0;
        for (int g = 0; g < disc.groups; g++) {
            for (int h = g + 1; h < disc.groups; h++) {
                if (disc.lengthOf(g) >= n && disc.lengthOf(h) >= n && rhymes(g, h, what, n)) {
                    pairs++;
                    bits |= 1 << g | 1 << h;
                }
            }
        }
        numbers.tell(bits);
        return pairs;
    }

    private boolean rhymes(int g, int h, int what, int n) {
        Disc disc = told.disc;
        int one = what == 0 ? disc.start[g + 1] - n : disc.start[g];
        int other = what == 0 ? disc.start[h + 1] - n : disc.start[h];
        return disc.sameSigns(one, other, n);
    }

    public int axe(int all, int k, int m, int s) {
        if (all < 1 || all > AXE_KINDS || k < 0 || k > all || m < 0 || m > all || s < 0 || s > m) {
            return NONE;
        }
        long so = 0;
        for (int shared = s; shared <= m; shared++) {
            so += choose(k, shared) * choose(all - k, m - shared);
        }
        numbers.tellFraction(so, choose(all, m));
        return 0;
    }

    private int unlikeKinds() {
        int unlike = 0;
        for (int kind = 0; kind < KINDS; kind++) {
            unlike += often[kind] > 0 ? 1 : 0;
        }
        return unlike;
    }

    private int seenSigns() {
        int signs = 0;
        for (int kind = 0; kind < KINDS; kind++) {
            signs += often[kind];
        }
        return signs;
    }

    /**
     * Above 0 if one number of kinds makes what was seen likelier than another, below 0 if less likely. Both are as
     * many as were seen at least; the chance of each is its falling product by its power, told crosswise here so
     * that nothing is rounded.
     */
    private int likelier(int one, int other, int seen) {
        int signs = seenSigns();
        left.become(1);
        right.become(1);
        for (int i = 0; i < seen; i++) {
            left.times(one - i);
            right.times(other - i);
        }
        left.timesPower(other, signs);
        right.timesPower(one, signs);
        return left.against(right);
    }

    /** In parts of a million, cut: found by halving, as the powers outgrow a long. */
    private long shareToPower(int length) {
        int signs = seenSigns();
        int squares = 0;
        for (int kind = 0; kind < KINDS; kind++) {
            squares += often[kind] * often[kind];
        }
        left.become(PARTS);
        left.timesPower(squares, length);
        int low = 0;
        int high = PARTS;
        for (int turn = 0; turn < 32 && low < high; turn++) {
            int middle = (low + high + 1) / 2;
            right.become(middle);
            right.timesPower(signs * signs, length);
            if (right.against(left) <= 0) {
                low = middle;
            } else {
                high = middle - 1;
            }
        }
        return low;
    }

    // ---- claims

    public int claim() {
        if (claims.size >= MOST_CLAIMS) {
            return NONE;
        }
        return claims.add();
    }

    public int says(int claim, int find, int v) {
        if (!claims.has(claim) || !isFind(find) || v < 0 || v > 2) {
            return NONE;
        }
        int was = claims.said[claim][find];
        claims.said[claim][find] = v;
        return was;
    }

    public int sheet(int claim, int kind, int n, int f, int step) {
        if (!claims.has(claim) || kind < 0 || kind > 3 || n > FINDS) {
            return NONE;
        }
        if (kind != 3 && n < 0) {
            return NOTHING;
        }
        int entries = kind == 3 ? 0 : n;
        int something = 0;
        int entry = f;
        for (int find = 0; find < FINDS; find++) {
            int v = find < entries ? Math.floorMod(narrowed(kind, entry), 3) : 0;
            claims.said[claim][find] = v;
            something += v != 0 ? 1 : 0;
            entry += step;
        }
        return kind == 3 ? TOO_MUCH : something;
    }

    private static int narrowed(int kind, int entry) {
        if (kind == 0) {
            return (byte) entry;
        }
        return kind == 1 ? (short) entry : entry;
    }

    public int find(int find, int v) {
        if (!isFind(find) || v < 0 || v > 2) {
            return NONE;
        }
        int was = told.finds[find];
        told.finds[find] = v;
        return was;
    }

    public int stand() {
        return claims.standing(told.finds);
    }

    public int risks(int claim) {
        if (!claims.has(claim)) {
            return NONE;
        }
        int others = claims.standing(told.finds) & ~(1 << claim);
        int risked = 0;
        int alone = 0;
        for (int find = 0; find < FINDS; find++) {
            int v = claims.said[claim][find];
            if (told.finds[find] != 0 || v == 0) {
                continue;
            }
            risked++;
            alone |= (claims.saying(find, v) & others) == 0 ? 1 << find : 0;
        }
        numbers.tell(alone);
        return risked;
    }

    public int idle() {
        int idlers = claims.standing(told.finds);
        for (int find = 0; find < FINDS; find++) {
            if (told.finds[find] == 0) {
                idlers &= ~(claims.saying(find, 1) | claims.saying(find, 2));
            }
        }
        return idlers;
    }

    public int seek() {
        int standing = claims.standing(told.finds);
        if (standing == 0) {
            return NONE;
        }
        int best = NOTHING;
        int fewest = 0;
        for (int find = 0; find < FINDS; find++) {
            if (told.finds[find] != 0) {
                continue;
            }
            int made = Integer.bitCount(standing & ~claims.saying(find, 2));
            int unmade = Integer.bitCount(standing & ~claims.saying(find, 1));
            int worst = Math.max(made, unmade);
            if (best == NOTHING || worst < fewest) {
                best = find;
                fewest = worst;
            }
        }
        if (best != NOTHING) {
            numbers.tell(fewest);
        }
        return best;
    }

    public int part() {
        int unknown = unknownFinds();
        claims.listPairs(claims.standing(told.finds), unknown);
        int fewest = FINDS + 1;
        int best = 0;
        for (int bits = 0; bits < 1 << FINDS; bits++) {
            if ((bits & ~unknown) == 0 && Integer.bitCount(bits) < fewest && claims.partedBy(bits)) {
                fewest = Integer.bitCount(bits);
                best = bits;
            }
        }
        if (fewest > FINDS) {
            return NOTHING;
        }
        numbers.tell(best);
        return fewest;
    }

    public int plan() {
        int standing = claims.standing(told.finds);
        int unknown = unknownFinds();
        int spoken = 0;
        for (int find = 0; find < FINDS; find++) {
            int sayers = claims.saying(find, 1) | claims.saying(find, 2);
            spoken += (unknown >> find & 1) != 0 && (sayers & standing) != 0 ? 1 : 0;
        }
        return spoken > PLANNED_FINDS ? TOO_MUCH : claims.depth(standing, unknown);
    }

    private static boolean isFind(int find) {
        return find >= 0 && find < FINDS;
    }

    private int unknownFinds() {
        int bits = 0;
        for (int find = 0; find < FINDS; find++) {
            bits |= told.finds[find] == 0 ? 1 << find : 0;
        }
        return bits;
    }

    // ---- kept

    public int seed(int v) {
        int was = random;
        random = v;
        return was;
    }

    public boolean keep(int i) {
        if (i < 0 || i >= KEPT) {
            return false;
        }
        kept[i].take(told);
        filled[i] = true;
        return true;
    }

    public boolean again(int i) {
        if (i < 0 || i >= KEPT || !filled[i]) {
            return false;
        }
        told.take(kept[i]);
        return true;
    }

    public int count(int what) {
        switch (what) {
            case 0: return told.disc.groups;
            case 1: return told.disc.places;
            case 2: case 3: case 4: case 5: return lexicon[what - 2].size;
            case 6: return told.homes;
            case 7: return told.drops;
            case 8: return told.back ? 1 : 0;
            case 9: return told.overs.size;
            case 10: return claims.size;
            case 11: return numbers.size;
            case 12: return text.size;
            case 13: return latestSteps;
            default: return NONE;
        }
    }

    public long row(int i) throws NoSuchElementException {
        if (i < 0 || i >= numbers.size) {
            throw new NoSuchElementException();
        }
        return numbers.values[i];
    }

    /** The numbers told last. */
    private static final class Row {
        final long[] values = new long[KINDS + 1];
        int size;

        void put(long value) {
            if (size < values.length) {
                values[size] = value;
                size++;
            }
        }

        void tell(long only) {
            size = 0;
            put(only);
        }

        void tell(long one, long other) {
            tell(one);
            put(other);
        }

        void tellFraction(long upper, long lower) {
            long divisor = commonDivisor(upper, lower);
            if (divisor > 0) {
                tell(upper / divisor, lower / divisor);
            }
        }

        void take(Row other) {
            size = 0;
            for (int i = 0; i < other.size; i++) {
                put(other.values[i]);
            }
        }

        private static long commonDivisor(long one, long other) {
            long a = one;
            long b = other;
            // Euclid needs fewer than a hundred turns for any two longs.
            for (int turn = 0; turn < 100 && b != 0; turn++) {
                long rest = a % b;
                a = b;
                b = rest;
            }
            return a;
        }
    }

    /** The text, and what can't stand in it. */
    private static final class Text {
        final int[] signs = new int[MOST_TEXT];
        int size;

        void push(int sign) {
            if (size < MOST_TEXT) {
                signs[size] = sign;
                size++;
            }
        }

        int faultAsDisc() {
            int groups = 1;
            int length = 0;
            int limit = Math.min(size, MOST_SIGNS);
            for (int p = 0; p < limit; p++) {
                if (signs[p] == '-') {
                    if (length == 0 || groups == MOST_GROUPS) {
                        return p;
                    }
                    groups++;
                    length = 0;
                } else {
                    if (length == GROUP_LENGTH || kindOf(signs[p]) == NONE) {
                        return p;
                    }
                    length++;
                }
            }
            return size > limit || length == 0 ? limit : NONE;
        }

        int faultAsWord() {
            int limit = Math.min(size, WORD_LENGTH);
            for (int p = 0; p < limit; p++) {
                if (signs[p] < 'A' || signs[p] >= 'A' + LETTERS) {
                    return p;
                }
            }
            return size > limit || size == 0 ? limit : NONE;
        }

        int faultAsLaxness() {
            for (int p = 0; p < size; p++) {
                if (!fitsLaxness(p, signs[p])) {
                    return p;
                }
            }
            return size < 4 ? size : NONE;
        }

        private static boolean fitsLaxness(int p, int sign) {
            switch (p) {
                case 0: return sign == 'h';
                case 1: return sign >= '1' && sign < '1' + MOST_HOMES;
                case 2: return sign == 'd';
                case 3: return sign >= '0' && sign <= '0' + MOST_DROPS;
                case 4: return sign == 'b';
                default: return false;
            }
        }

        static int kindOf(int sign) {
            if (sign == '?') {
                return UNSEEN;
            }
            return sign >= 'a' && sign < 'a' + KINDS ? sign - 'a' : NONE;
        }
    }

    /** Groups of signs, place by place. */
    private static final class Disc {
        final int[] kinds = new int[MOST_SIGNS];
        final int[] groupOf = new int[MOST_SIGNS];
        final int[] start = new int[MOST_GROUPS + 1];
        int groups;
        int places;

        /** The text has been found to have no fault. */
        void fill(Text text) {
            groups = 0;
            places = 0;
            for (int p = 0; p < text.size; p++) {
                int kind = Text.kindOf(text.signs[p]);
                if (kind == NONE) {
                    groups++;
                    start[groups] = places;
                } else {
                    kinds[places] = kind;
                    groupOf[places] = groups;
                    places++;
                }
            }
            groups++;
            start[groups] = places;
        }

        void take(Disc other) {
            groups = other.groups;
            places = other.places;
            for (int g = 0; g <= groups; g++) {
                start[g] = other.start[g];
            }
            for (int p = 0; p < places; p++) {
                kinds[p] = other.kinds[p];
                groupOf[p] = other.groupOf[p];
            }
        }

        int lengthOf(int g) {
            return start[g + 1] - start[g];
        }

        void hide(int bits) {
            for (int p = 0; p < places; p++) {
                if ((bits >> kinds[p] & 1) != 0) {
                    kinds[p] = UNSEEN;
                }
            }
        }

        int kindBits() {
            int bits = 0;
            for (int p = 0; p < places; p++) {
                bits |= 1 << kinds[p];
            }
            return bits;
        }

        void countKinds(int[] often) {
            for (int kind = 0; kind < often.length; kind++) {
                often[kind] = 0;
            }
            for (int p = 0; p < places; p++) {
                if (kinds[p] < often.length) {
                    often[kinds[p]]++;
                }
            }
        }

        /** Whether a group is so long and has no sign that can't be made out. */
        boolean clear(int g, int length) {
            if (lengthOf(g) != length) {
                return false;
            }
            for (int p = start[g]; p < start[g + 1]; p++) {
                if (kinds[p] == UNSEEN) {
                    return false;
                }
            }
            return true;
        }

        boolean sameSigns(int one, int other, int length) {
            for (int i = 0; i < length; i++) {
                if (kinds[one + i] == UNSEEN || kinds[one + i] != kinds[other + i]) {
                    return false;
                }
            }
            return true;
        }
    }

    /** Pairs of places, of which one was pressed behind the other. */
    private static final class Overs {
        final int[] behind = new int[MOST_OVERS];
        final int[] before = new int[MOST_OVERS];
        int size;

        boolean has(int later, int earlier) {
            for (int i = 0; i < size; i++) {
                if (behind[i] == later && before[i] == earlier) {
                    return true;
                }
            }
            return false;
        }

        int add(int later, int earlier) {
            if (size < MOST_OVERS) {
                behind[size] = later;
                before[size] = earlier;
                size++;
            }
            return size;
        }

        void take(Overs other) {
            size = other.size;
            for (int i = 0; i < size; i++) {
                behind[i] = other.behind[i];
                before[i] = other.before[i];
            }
        }

        int all() {
            return (1 << size) - 1;
        }

        /** Whether some of the overs (bits) make no ring: then those that begin at nothing can be peeled off till none is left. */
        boolean ringFree(int bits) {
            int leftOver = bits;
            for (int turn = 0; turn < MOST_OVERS && leftOver != 0; turn++) {
                leftOver = peel(leftOver);
            }
            return leftOver == 0;
        }

        private int peel(int bits) {
            long waiting = 0;
            for (int i = 0; i < size; i++) {
                waiting |= (bits >> i & 1) != 0 ? 1L << behind[i] : 0;
            }
            int rest = bits;
            for (int i = 0; i < size; i++) {
                rest &= (waiting >>> before[i] & 1) == 0 ? ~(1 << i) : -1;
            }
            return rest;
        }
    }

    /** What keep() keeps. */
    private static final class Told {
        final Disc disc = new Disc();
        final Overs overs = new Overs();
        final int[] finds = new int[FINDS];
        int homes = 1;
        int drops = 0;
        boolean back = false;

        void take(Told other) {
            disc.take(other.disc);
            overs.take(other.overs);
            homes = other.homes;
            drops = other.drops;
            back = other.back;
            for (int find = 0; find < FINDS; find++) {
                finds[find] = other.finds[find];
            }
        }
    }

    /** Words of letters. */
    private static final class Tongue {
        final int[][] letterAt = new int[MOST_WORDS][WORD_LENGTH];
        final int[] lengths = new int[MOST_WORDS];
        int size;

        boolean has(Text text) {
            for (int w = 0; w < size; w++) {
                if (isWord(w, text)) {
                    return true;
                }
            }
            return false;
        }

        private boolean isWord(int w, Text text) {
            if (lengths[w] != text.size) {
                return false;
            }
            for (int i = 0; i < lengths[w]; i++) {
                if (letterAt[w][i] != text.signs[i] - 'A') {
                    return false;
                }
            }
            return true;
        }

        /** The text has been found to have no fault, and the tongue to have room. */
        int add(Text text) {
            for (int i = 0; i < text.size; i++) {
                letterAt[size][i] = text.signs[i] - 'A';
            }
            lengths[size] = text.size;
            size++;
            return size - 1;
        }
    }

    /**
     * For each group in a row of groups (a level) the unlike ways in which words spell it. A way is a code with four
     * bits for each kind (0, or its letter and 1). As each level ahead gives letters to the same kinds whatever the
     * way, two ways of a level that both go with what is ahead differ in kinds that are new there.
     */
    private static final class Ways {
        final long[][] codes = new long[MOST_LEVELS][MOST_WORDS];
        final int[][] sums = new int[MOST_LEVELS][MOST_WORDS];
        final int[][] words = new int[MOST_LEVELS][MOST_WORDS];
        final int[] choices = new int[MOST_LEVELS];
        final long[] asked = new long[MOST_LEVELS];
        int size;
        private long known;
        private int spread;
        private int drops;
        private boolean back;

        void open(int homes, int mostDrops, boolean backwards) {
            size = 0;
            known = 0;
            spread = (7 - homes) * 0x11111111;
            drops = mostDrops;
            back = backwards;
        }

        void add(Disc disc, Tongue tongue) {
            for (int g = 0; g < disc.groups && size < MOST_LEVELS; g++) {
                long own = maskOf(disc, g);
                choices[size] = 0;
                asked[size] = own & known;
                for (int w = 0; w < tongue.size; w++) {
                    long code = spelt(disc, g, tongue, w);
                    if (code != MISSPELT) {
                        addWay(code, w);
                    }
                }
                known |= own;
                size++;
            }
        }

        private static long maskOf(Disc disc, int g) {
            long mask = 0;
            for (int p = disc.start[g]; p < disc.start[g + 1]; p++) {
                mask |= disc.kinds[p] == UNSEEN ? 0 : 15L << shiftOf(disc.kinds[p]);
            }
            return mask;
        }

        private long spelt(Disc disc, int g, Tongue tongue, int w) {
            int length = disc.lengthOf(g);
            if (tongue.lengths[w] < length || tongue.lengths[w] > length + drops) {
                return MISSPELT;
            }
            long code = 0;
            for (int i = 0; i < length; i++) {
                int kind = disc.kinds[back ? disc.start[g + 1] - 1 - i : disc.start[g] + i];
                if (kind == UNSEEN) {
                    continue;
                }
                int letter = tongue.letterAt[w][i];
                int had = letterIn(code, kind);
                if (had != NONE && had != letter) {
                    return MISSPELT;
                }
                code |= (long) (letter + 1) << shiftOf(kind);
            }
            return code;
        }

        private void addWay(long code, int w) {
            int fresh = letterSums(code & ~known);
            if (crowded(fresh)) {
                return;
            }
            int c = 0;
            while (c < choices[size] && codes[size][c] != code) {
                c++;
            }
            if (c == choices[size]) {
                codes[size][c] = code;
                sums[size][c] = fresh;
                words[size][c] = 0;
                choices[size]++;
            }
            words[size][c] |= 1 << w;
        }

        /** How many kinds have each letter, four bits for each of the eight. */
        private static int letterSums(long code) {
            int all = 0;
            for (int kind = 0; kind < KINDS; kind++) {
                int letter = letterIn(code, kind);
                all += letter == NONE ? 0 : 1 << 4 * letter;
            }
            return all;
        }

        /**
         * Whether a letter has more homes than it may. Sums of two ways that are not crowded, or of one group, are
         * at most 6 for each letter, so that nothing is carried from one letter's four bits into the next one's.
         */
        boolean crowded(int all) {
            return (all + spread & 0x88888888) != 0;
        }
    }

    /** Goes through all readings, and tells what was asked of them. */
    private static final class Reader {
        final long[] sorted = new long[SORTED];
        int steps;
        int found;
        int held;
        int wordBits;
        long least;
        private final Ways ways;
        private final int[] tally = new int[KINDS * LETTERS];
        private final int[] chosen = new int[MOST_LEVELS];
        private int levels;
        private int mode;
        private int detail;

        Reader(Ways ways) {
            this.ways = ways;
        }

        void run(int mostLevels, int asMode, int withDetail) {
            levels = Math.min(mostLevels, ways.size);
            mode = asMode;
            detail = withDetail;
            steps = 0;
            found = 0;
            held = 0;
            wordBits = 0;
            least = 0;
            for (int i = 0; i < tally.length; i++) {
                tally[i] = 0;
            }
            walk(0, 0, 0);
        }

        boolean tooMany() {
            return steps > MOST_STEPS;
        }

        int lettersOf(int kind) {
            int bits = 0;
            for (int letter = 0; letter < LETTERS; letter++) {
                bits |= tally[kind * LETTERS + letter] > 0 ? 1 << letter : 0;
            }
            return bits;
        }

        int worstOf(int kind) {
            int worst = 0;
            for (int letter = 0; letter < LETTERS; letter++) {
                worst = Math.max(worst, tally[kind * LETTERS + letter]);
            }
            return worst;
        }

        private void walk(int level, long code, int sums) {
            if (level >= levels) {
                take(code);
                return;
            }
            long asked = ways.asked[level];
            int choices = ways.choices[level];
            int before = found;
            for (int c = 0; c < choices; c++) {
                long choice = ways.codes[level][c];
                if (((code ^ choice) & asked) != 0 || ways.crowded(sums + ways.sums[level][c])) {
                    continue;
                }
                steps++;
                if (tooMany()) {
                    return;
                }
                chosen[level] = c;
                walk(level + 1, code | choice, sums + ways.sums[level][c]);
                if (tooMany()) {
                    return;
                }
            }
            if (mode == SPLIT_AT && level == detail && found > before) {
                held++;
            }
        }

        private void take(long code) {
            found++;
            if (found == 1 || code < least) {
                least = code;
            }
            if (mode == TALLY_LETTERS) {
                tallyLetters(code);
            } else if (mode == SORT_THEM) {
                sortIn(code);
            } else if (mode == NOTE_WORDS) {
                wordBits |= ways.words[detail][chosen[detail]];
            }
        }

        private void tallyLetters(long code) {
            for (int kind = 0; kind < KINDS; kind++) {
                int letter = letterIn(code, kind);
                if (letter != NONE) {
                    tally[kind * LETTERS + letter]++;
                }
            }
        }

        /** Keeps the first ones alone, as many as are asked for: no room for all is needed then. */
        private void sortIn(long code) {
            int size = Math.min(found - 1, detail);
            if (size == detail && code > sorted[size - 1]) {
                return;
            }
            int i = size < detail ? size : size - 1;
            while (i > 0 && sorted[i - 1] > code) {
                sorted[i] = sorted[i - 1];
                i--;
            }
            sorted[i] = code;
        }
    }

    /** Counts all rows in which places can have been pressed. */
    private static final class Orders {
        private final long[] ways = new long[1 << ORDERED_PLACES];
        private final int[] needed = new int[ORDERED_PLACES];
        private int places;

        void open(int mostPlaces, Overs overs) {
            places = Math.min(mostPlaces, ORDERED_PLACES);
            for (int p = 0; p < places; p++) {
                needed[p] = 0;
            }
            for (int i = 0; i < overs.size; i++) {
                bind(overs.behind[i], overs.before[i]);
            }
        }

        void bind(int behind, int before) {
            if (behind < places && before < places) {
                needed[behind] |= 1 << before;
            }
        }

        /** By sets of places pressed so far: each grows by every place whose needs are in it. */
        long number() {
            int sets = 1 << places;
            for (int set = 0; set < sets; set++) {
                ways[set] = 0;
            }
            ways[0] = 1;
            for (int set = 0; set < sets - 1; set++) {
                if (ways[set] != 0) {
                    grow(set);
                }
            }
            return ways[sets - 1];
        }

        private void grow(int set) {
            for (int p = 0; p < places; p++) {
                if ((set >> p & 1) == 0 && (needed[p] & ~set) == 0) {
                    ways[set | 1 << p] += ways[set];
                }
            }
        }
    }

    /** A number from 0 that may outgrow a long, told in limbs of 40 bits: 640 bits are more than any call needs. */
    private static final class Big {
        private static final int LIMBS = 16;
        private static final int BITS = 40;
        private static final long MASK = (1L << BITS) - 1;

        private final long[] limbs = new long[LIMBS];
        private int used;

        void become(int value) {
            limbs[0] = value;
            used = 1;
        }

        /** The factor is below 4000000, so that a limb times it and what is carried stay a long. */
        void times(int factor) {
            long carried = 0;
            for (int i = 0; i < used; i++) {
                long product = limbs[i] * factor + carried;
                limbs[i] = product & MASK;
                carried = product >>> BITS;
            }
            if (carried > 0 && used < LIMBS) {
                limbs[used] = carried;
                used++;
            }
        }

        void timesPower(int factor, int power) {
            for (int i = 0; i < power; i++) {
                times(factor);
            }
        }

        int against(Big other) {
            for (int i = LIMBS - 1; i >= 0; i--) {
                int sign = Long.compare(limbAt(i), other.limbAt(i));
                if (sign != 0) {
                    return sign;
                }
            }
            return 0;
        }

        private long limbAt(int i) {
            return i < used ? limbs[i] : 0;
        }
    }

    /** What claims say of finds, and which finds part them. */
    private static final class Claims {
        final int[][] said = new int[MOST_CLAIMS][FINDS];
        int size;
        private final int[] pairs = new int[MOST_CLAIMS * MOST_CLAIMS];
        private final int[] depths = new int[1 << MOST_CLAIMS];
        private final int[] yes = new int[FINDS];
        private final int[] no = new int[FINDS];
        private int pairCount;

        boolean has(int claim) {
            return claim >= 0 && claim < size;
        }

        int add() {
            size++;
            return size - 1;
        }

        int saying(int find, int v) {
            int bits = 0;
            for (int claim = 0; claim < size; claim++) {
                bits |= said[claim][find] == v ? 1 << claim : 0;
            }
            return bits;
        }

        int standing(int[] finds) {
            int bits = (1 << size) - 1;
            for (int find = 0; find < FINDS; find++) {
                if (finds[find] != 0) {
                    bits &= ~saying(find, 3 - finds[find]);
                }
            }
            return bits;
        }

        /** Lists, for each pair of some claims (bits), which of some finds (bits) part it. */
        void listPairs(int some, int finds) {
            pairCount = 0;
            for (int one = 0; one < size; one++) {
                for (int other = one + 1; other < size; other++) {
                    if ((some >> one & 1) != 0 && (some >> other & 1) != 0) {
                        pairs[pairCount] = parting(one, other) & finds;
                        pairCount++;
                    }
                }
            }
        }

        private int parting(int one, int other) {
            int bits = 0;
            for (int find = 0; find < FINDS; find++) {
                // 1 and 2 are the only two that add up to 3.
                bits |= said[one][find] + said[other][find] == 3 ? 1 << find : 0;
            }
            return bits;
        }

        boolean partedBy(int finds) {
            for (int i = 0; i < pairCount; i++) {
                if ((pairs[i] & finds) == 0) {
                    return false;
                }
            }
            return true;
        }

        /**
         * How many of some finds (bits) are needed at worst to part some claims (bits). A find that has been looked
         * for parts none of those that are left, so which ones have been need not be told: sets of claims will do,
         * and each is parted into lesser ones.
         */
        int depth(int some, int finds) {
            for (int find = 0; find < FINDS; find++) {
                boolean open = (finds >> find & 1) != 0;
                yes[find] = open ? saying(find, 1) : 0;
                no[find] = open ? saying(find, 2) : 0;
            }
            for (int set = 0; set <= some; set++) {
                if ((set & ~some) == 0) {
                    depths[set] = depthOf(set);
                }
            }
            return depths[some];
        }

        private int depthOf(int set) {
            int fewest = FINDS + 1;
            for (int find = 0; find < FINDS; find++) {
                if ((yes[find] & set) != 0 && (no[find] & set) != 0) {
                    int worst = Math.max(depths[set & ~no[find]], depths[set & ~yes[find]]);
                    fewest = Math.min(fewest, 1 + worst);
                }
            }
            return fewest > FINDS ? 0 : fewest;
        }
    }
}
