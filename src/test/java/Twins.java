import java.util.ArrayList;
import java.util.List;

/**
 * Whether a call changes nothing: two objects are told the same, one of them is asked the call, and from then on both
 * must answer alike whatever they are asked. Each way to ask has two new objects, so that none gets more than the 512
 * calls that an object is promised for.
 */
final class Twins {
    interface Telling {
        void tell(ClayDisc x);
    }

    interface Asking {
        long ask(ClayDisc x);
    }

    private interface Probe {
        void look(ClayDisc x, List<Long> seen);
    }

    private static final Probe[] PROBES = {Twins::counts, Twins::signs, Twins::textAsWord, Twins::textAsLaxness,
        (x, seen) -> words(x, seen, 0), (x, seen) -> words(x, seen, 1), (x, seen) -> words(x, seen, 2),
        (x, seen) -> words(x, seen, 3), Twins::overs, Twins::said, Twins::finds, (x, seen) -> kept(x, seen, 0),
        (x, seen) -> kept(x, seen, 1), (x, seen) -> kept(x, seen, 2)};

    private Twins() {
    }

    static void refused(String call, Telling telling, Asking asking) {
        unchanged(call, -1, telling, asking);
    }

    static void unchanged(String call, long due, Telling telling, Asking asking) {
        for (int i = 0; i < PROBES.length; i++) {
            ClayDisc asked = new ClayDisc();
            ClayDisc other = new ClayDisc();
            telling.tell(asked);
            telling.tell(other);
            long got = asking.ask(asked);
            if (i == 0) {
                Check.due(call, got, due);
            }
            Check.due(call + ": changes nothing (" + i + ")", look(i, asked).equals(look(i, other)), true);
        }
    }

    /** Something of everything that can be told: a call that changes what it should not is seen by one of the probes. */
    static void rich(ClayDisc x) {
        Check.laxness(x, "h2d0");
        Check.disc(x, "de-f");
        x.over(0, 1);
        x.find(2, 2);
        x.keep(1);
        Check.laxness(x, "h1d0");
        Check.words(x, 0, "AB", "BA", "AC", "CA");
        Check.words(x, 1, "ABC");
        Check.disc(x, "ab-ba-ac");
        x.over(1, 0);
        x.over(3, 2);
        x.keep(0);
        x.over(5, 4);
        for (int claim = 0; claim < 3; claim++) {
            x.claim();
            x.says(claim, claim, 1);
            x.says(claim, 3, 2);
            x.says(claim, 11, claim);
        }
        x.find(4, 1);
        x.find(11, 2);
        x.seed(-77);
        x.readings(0);
        x.kinds();
        Check.tell(x, "abc-de?l");
    }

    /** What rich() tells, and something more. */
    static Telling richAnd(Telling more) {
        return x -> {
            rich(x);
            more.tell(x);
        };
    }

    private static List<Long> look(int i, ClayDisc x) {
        List<Long> seen = new ArrayList<>();
        PROBES[i].look(x, seen);
        return seen;
    }

    private static void counts(ClayDisc x, List<Long> seen) {
        for (int what = -1; what <= 14; what++) {
            seen.add((long) x.count(what));
        }
        row(x, seen);
        places(x, seen);
        seen.add((long) x.seed(0));
    }

    private static void row(ClayDisc x, List<Long> seen) {
        for (long number : Check.rowOf(x)) {
            seen.add(number);
        }
    }

    private static void places(ClayDisc x, List<Long> seen) {
        for (int place = 0; place < x.count(1); place++) {
            seen.add((long) x.at(place));
        }
    }

    private static void signs(ClayDisc x, List<Long> seen) {
        seen.add(x.end(60) ? 1L : 0L);
        seen.add((long) x.disc());
        places(x, seen);
    }

    private static void textAsWord(ClayDisc x, List<Long> seen) {
        seen.add((long) x.word(3));
        seen.add((long) x.count(5));
    }

    private static void textAsLaxness(ClayDisc x, List<Long> seen) {
        seen.add((long) x.laxness());
        seen.add((long) x.count(6));
    }

    private static void words(ClayDisc x, List<Long> seen, int tongue) {
        Check.laxness(x, "h3d0");
        for (String disc : new String[] {"a", "ab", "abc", "abcd"}) {
            Check.disc(x, disc);
            int readings = x.readings(tongue);
            seen.add((long) readings);
            for (int i = 0; i < Math.min(readings, 20); i++) {
                x.reading(tongue, i);
                for (int kind = 0; kind < 4; kind++) {
                    seen.add(x.row(kind));
                }
            }
        }
    }

    private static void overs(ClayDisc x, List<Long> seen) {
        x.mend();
        row(x, seen);
        x.way();
        row(x, seen);
        x.lot();
        row(x, seen);
        for (int p = 0; p < 7; p++) {
            for (int q = 0; q < 7; q++) {
                seen.add((long) x.ahead(p, q));
                row(x, seen);
            }
        }
        for (int p = 0; p < 7; p++) {
            for (int q = 0; q < 7; q++) {
                seen.add((long) x.over(p, q));
            }
        }
    }

    private static void said(ClayDisc x, List<Long> seen) {
        seen.add((long) x.stand());
        seen.add((long) x.idle());
        seen.add((long) x.part());
        for (int claim = 0; claim < 10; claim++) {
            for (int find = 0; find < 12; find++) {
                seen.add((long) x.says(claim, find, 0));
            }
        }
    }

    private static void finds(ClayDisc x, List<Long> seen) {
        for (int find = 0; find < 12; find++) {
            seen.add((long) x.find(find, 0));
        }
    }

    private static void kept(ClayDisc x, List<Long> seen, int i) {
        seen.add(x.again(i) ? 1L : 0L);
        places(x, seen);
        for (int what : new int[] {0, 1, 6, 7, 8, 9}) {
            seen.add((long) x.count(what));
        }
        finds(x, seen);
        overs(x, seen);
    }
}
