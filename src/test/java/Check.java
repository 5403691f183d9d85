import java.util.function.ToIntFunction;

/** What the tests share: answers against what is due, and texts put on the tape. */
final class Check {
    private static int wrong = 0;

    private Check() {
    }

    static void due(String call, long got, long want) {
        if (got != want) {
            wrong++;
            System.out.println(call + " answered " + got + ", due is " + want);
        }
    }

    static void dueTrue(String what, boolean holds) {
        due(what, holds ? 1 : 0, 1);
    }

    /** A call with this answer, before and behind which all other calls answer the same. */
    static void unchanged(Lodge x, String call, int want, ToIntFunction<Lodge> made) {
        String before = x.state();
        due(call, made.applyAsInt(x), want);
        dueSame(call, x, before);
    }

    static void dueSame(String call, Lodge x, String before) {
        dueTrue(call + " changes nothing", x.state().equals(before));
    }

    /** Feeds a text byte by byte in fours, the lowest byte first. */
    static void feed(Lodge x, String text) {
        for (int at = 0; at < text.length(); at += 4) {
            int n = Math.min(4, text.length() - at);
            int v = 0;
            for (int i = 0; i < n; i++) {
                v |= text.charAt(at + i) << 8 * i;
            }
            x.feed(n, v);
        }
    }

    static int gift(Lodge x, int coins, String text) {
        feed(x, text);
        return x.gift(coins);
    }

    static int statute(Lodge x, int from, String text) {
        feed(x, text);
        return x.statute(from);
    }

    static void layAll(Lodge x, int part) {
        int missing = x.about(part, 1) - x.about(part, 2);
        for (int i = 0; i < missing; i++) {
            int before = x.about(part, 2);
            due("lay(" + part + ")", x.lay(part), before + 1);
        }
    }

    static void finish() {
        System.out.println(wrong == 0 ? "all answers are as due" : wrong + " answers are not as due");
        if (wrong != 0) {
            System.exit(1);
        }
    }
}
