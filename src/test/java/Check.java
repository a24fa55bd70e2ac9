import java.util.Arrays;
import java.util.NoSuchElementException;

/** What all tests share: telling texts, comparing answers, and the exit code. */
final class Check {
    private static int wrong = 0;
    private static int asked = 0;

    private Check() {
    }

    static void due(String call, long got, long want) {
        asked++;
        if (got != want) {
            wrong++;
            if (wrong <= 50) {
                System.out.println(call + " answered " + got + ", due is " + want);
            }
        }
    }

    static void due(String call, boolean got, boolean want) {
        due(call, got ? 1 : 0, want ? 1 : 0);
    }

    static void dueRow(String call, ClayDisc x, long... want) {
        long[] got = rowOf(x);
        asked++;
        if (!Arrays.equals(got, want)) {
            wrong++;
            System.out.println(call + " told " + Arrays.toString(got) + ", due is " + Arrays.toString(want));
        }
    }

    static void dueNone(String call, Runnable run) {
        asked++;
        try {
            run.run();
        } catch (NoSuchElementException e) {
            return;
        }
        wrong++;
        System.out.println(call + " threw nothing, due is NoSuchElementException");
    }

    static long[] rowOf(ClayDisc x) {
        long[] row = new long[x.count(11)];
        for (int i = 0; i < row.length; i++) {
            row[i] = x.row(i);
        }
        return row;
    }

    /** Puts a text behind what is there, four signs a call. */
    static void tell(ClayDisc x, String text) {
        int had = x.count(12);
        for (int i = 0; i < text.length(); i += 4) {
            int v = 0;
            for (int j = i; j < i + 4; j++) {
                v = v << 8 | (j < text.length() ? text.charAt(j) : 0);
            }
            x.sign(v);
        }
        x.end(had + text.length());
    }

    static int disc(ClayDisc x, String text) {
        x.end(0);
        tell(x, text);
        return x.disc();
    }

    static int word(ClayDisc x, int tongue, String text) {
        x.end(0);
        tell(x, text);
        return x.word(tongue);
    }

    static void words(ClayDisc x, int tongue, String... texts) {
        for (String text : texts) {
            word(x, tongue, text);
        }
    }

    /** All words of a tongue go, and others come. */
    static void forget(ClayDisc x, int tongue, String... texts) {
        x.forget(tongue);
        words(x, tongue, texts);
    }

    static int laxness(ClayDisc x, String text) {
        x.end(0);
        tell(x, text);
        return x.laxness();
    }

    static int second(ClayDisc x, int tongue, String text) {
        x.end(0);
        tell(x, text);
        return x.second(tongue);
    }

    /** So many groups of the same signs. */
    static String groups(String group, int n) {
        String[] all = new String[n];
        Arrays.fill(all, group);
        return String.join("-", all);
    }

    static void over(String name) {
        System.out.println(name + ": " + asked + " asked, " + wrong + " wrong");
        if (wrong != 0) {
            System.exit(1);
        }
    }
}
