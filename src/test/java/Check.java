/** What the tests share: answers against what is due, and texts put on the tape. */
final class Check {
    private static int wrong = 0;

    private Check() {
    }

    static void due(String call, long got, long want) {
        if (got != want) {
            wrong++;
            System.out.println(call + " answered " + got + ", due is " + want);
        }
    }

    static void dueTrue(String what, boolean holds) {
        due(what, holds ? 1 : 0, 1);
    }

    /** Feeds a text byte by byte in fours, the lowest byte first. */
    static void feed(ChurchLodge x, String text) {
        for (int at = 0; at < text.length(); at += 4) {
            int n = Math.min(4, text.length() - at);
            int v = 0;
            for (int i = 0; i < n; i++) {
                v |= text.charAt(at + i) << 8 * i;
            }
            x.feed(n, v);
        }
    }

    static int gift(ChurchLodge x, int coins, String text) {
        feed(x, text);
        return x.gift(coins);
    }

    static int statute(ChurchLodge x, int from, String text) {
        feed(x, text);
        return x.statute(from);
    }

    static void layAll(ChurchLodge x, int part) {
        int missing = x.about(part, 1) - x.about(part, 2);
        for (int i = 0; i < missing; i++) {
            int before = x.about(part, 2);
            due("lay(" + part + ")", x.lay(part), before + 1);
        }
    }

    /** All that can be asked, as one text, to see that a refused call changed nothing. */
    static String all(ChurchLodge x) {
        StringBuilder s = new StringBuilder();
        for (int what = 0; what <= 9; what++) {
            s.append(x.count(what)).append(' ');
        }
        s.append(x.work());
        for (int p = 0; p < x.count(0); p++) {
            s.append("\npart ").append(p).append(':');
            for (int what = 0; what <= 12; what++) {
                s.append(' ').append(x.about(p, what));
            }
            for (int i = 0; i < 4; i++) {
                s.append(' ').append(x.support(p, i));
            }
            s.append(' ').append(x.may(p)).append(' ').append(x.falls(p)).append(' ').append(x.needs(p));
            for (int e = 0; e <= x.count(3); e++) {
                s.append(' ').append(x.wanted(e, p));
            }
        }
        for (int g = 0; g < x.count(1); g++) {
            s.append("\ngift ").append(x.left(g, 0)).append(' ').append(x.left(g, 1));
        }
        return s.toString();
    }

    static void dueSame(String call, ChurchLodge x, String before) {
        dueTrue(call + " changes nothing", all(x).equals(before));
    }

    static void finish() {
        System.out.println(wrong == 0 ? "all answers are as due" : wrong + " answers are not as due");
        if (wrong != 0) {
            System.exit(1);
        }
    }
}
