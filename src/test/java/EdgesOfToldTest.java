/** The edges that the document names for what is told: promises 20 to 27. */
public final class EdgesOfToldTest {
    private static final int LOW = Integer.MIN_VALUE, HIGH = Integer.MAX_VALUE;

    public static void main(String[] args) {
        whatAboutParts();
        leastAndMostAbout();
        whetherOnCentring();
        netToOneSide();
        howManyItSupports();
        supportsOfAPart();
        leftOfGifts();
        askingWorkChangesNothing();
        endsOfMonths();
        asOfAPartThatCameLater();
        alongWhichSupport();
        ofSeveralTheFirst();
        downOnTheGroundOrCentring();
        needsOfAll();
        needsEachOnce();
        whatIsCounted();
        greatestCounts();
        heaviestChurch();
        longestColumn();
        questionsChangeNothing();
        Check.finish();
    }

    private static Lodge walls(int n) {
        Lodge x = new Lodge();
        for (int i = 0; i < n; i++) {
            x.part(2, 10, 0);
        }
        return x;
    }

    private static void layEach(Lodge x, int... parts) {
        for (int p : parts) {
            Check.layAll(x, p);
        }
    }

    /** Struck, with 30 on each of two piers and a push of 10. */
    private static Lodge struckArch() {
        Lodge x = walls(2);
        x.arch(2, 10, 0, 0, 1);
        x.tell(2, 3, 0);
        x.prop(0, 50);
        x.prop(1, 50);
        layEach(x, 0, 1, 2);
        Check.due("11: strike(2)", x.strike(2), 1);
        return x;
    }

    /** "0 KIND .. 12 PRICE. BAD." */
    private static void whatAboutParts() {
        Lodge x = new Lodge();
        x.part(3, 7, 0);
        int[] want = {0, 3, 0, 0, 0, 0, 0, 0, 0, 0, 0, 7, 0};
        for (int what = 0; what <= 12; what++) {
            Check.due("20: about(0, " + what + ")", x.about(0, what), want[what]);
        }
        int[] bad = {-1, 13, LOW, HIGH};
        for (int what : bad) {
            Check.due("20: about(0, " + what + ")", x.about(0, what), -1);
            Check.due("20: about(1, " + what + ")", x.about(1, what), -1);
        }
    }

    private static void leastAndMostAbout() {
        Lodge x = new Lodge();
        x.part(1, 1, 0);
        x.part(30, 999, 999);
        x.gift(1000000);
        Check.statute(x, 0, "#30 ");
        layEach(x, 1);
        x.prop(1, 100000);
        int[][] want = {{0, 1, 0, 0, 0, 0, 0, 0, 0, 0, 0, 1, 0}, {0, 30, 30, 29970, 0, 0, 0, 0, 100000, 0, 0, 999, 999}};
        for (int p = 0; p < 2; p++) {
            for (int what = 0; what <= 12; what++) {
                Check.due("20: about(" + p + ", " + what + ")", x.about(p, what), want[p][what]);
            }
        }
        Check.due("27: paid", x.count(7), 29970);
        Check.due("27: left", x.count(6), 970030);
    }

    /** "An ARCH that is BEGUN is on CENTRING till that is STRUCK (it is made with its first course)." */
    private static void whetherOnCentring() {
        Lodge x = walls(2);
        x.arch(2, 10, 0, 0, 1);
        x.tell(2, 3, 0);
        layEach(x, 0, 1);
        Check.due("20: a wall", x.about(0, 5), 0);
        Check.due("20: not begun", x.about(2, 5), 0);
        x.lay(2);
        Check.due("20: its first course", x.about(2, 5), 1);
        x.lay(2);
        Check.due("20: whole", x.about(2, 5), 1);
        Check.unchanged(x, "11: refused", -15, l -> l.strike(2));
        Check.due("20: still", x.about(2, 5), 1);
        x.prop(0, 9);
        x.prop(1, 9);
        x.strike(2);
        Check.due("20: struck", x.about(2, 5), 0);
        x.month(1);
        Check.due("20: for good", x.about(2, 5), 0);
    }

    /** "NET is how much more to the one side than to the other one"; "whether that goes to the right (1; 0)". */
    private static void netToOneSide() {
        // the thrusts of the arch at the left and of the one at the right, what NET is at the pier between them
        int[][] cases = {{50, 50, 0, 0}, {51, 50, 0, 0}, {55, 50, 1, 1}, {50, 55, 1, 0}, {100, 0, 20, 1}, {0, 100, 20, 0},
            {0, 0, 0, 0}, {100, 100, 0, 0}};
        for (int[] c : cases) {
            Lodge x = walls(3);
            x.arch(2, 10, 0, 0, 1);
            x.arch(2, 10, 0, 1, 2);
            for (int p = 0; p < 5; p++) {
                x.tell(p, 1, 100);
                x.tell(p, 3, 0);
            }
            x.tell(3, 2, c[0]);
            x.tell(4, 2, c[1]);
            layEach(x, 0, 1, 2, 3, 4);
            x.strike(3);
            Check.due("20: of the one arch", x.about(1, 6), 20 * c[0] / 100);
            x.strike(4);
            Check.due("20: NET of " + c[0] + " and " + c[1], x.about(1, 6), c[2]);
            Check.due("20: its side", x.about(1, 7), c[3]);
            Check.due("20: an arch isn't pushed by itself", x.about(3, 6), 0);
        }
    }

    /** "how many PARTS it supports": by the plan, each once. */
    private static void howManyItSupports() {
        Lodge x = walls(40);
        Check.due("20: none", x.about(0, 10), 0);
        for (int p = 1; p < 40; p++) {
            x.bear(p, 12, -1, -1, -1);
        }
        Check.due("20: all others", x.about(0, 10), 39);
        Check.due("20: none", x.about(39, 10), 0);
        x.bear(39, 3806, 6, -1, -1);
        Check.due("20: all others yet", x.about(0, 10), 39);
        Check.due("20: one", x.about(38, 10), 1);
        x.bear(39, 3812, -1, -1, -1);
        Check.due("20: one less", x.about(0, 10), 38);
    }

    /** "SUPPORT i of a PART": from 0 to the last that there is. */
    private static void supportsOfAPart() {
        Lodge x = walls(40);
        x.bear(39, 3809, 1, 101, 3701);
        int[] want = {3809, 1, 101, 3701};
        for (int i = 0; i < 4; i++) {
            Check.due("21: support(39, " + i + ")", x.support(39, i), want[i]);
        }
        int[] bad = {-1, 4, 5, LOW, HIGH};
        for (int i : bad) {
            Check.due("21: support(39, " + i + ")", x.support(39, i), -1);
        }
        x.bear(39, 12, -1, -1, -1);
        Check.due("21: the one", x.support(39, 0), 12);
        Check.due("21: no second one", x.support(39, 1), -1);
        Check.due("21: none on the ground", x.support(0, 0), -1);
        Check.due("21: no such part", x.support(40, 0), -1);
        Check.due("21: no such part", x.support(-1, 0), -1);
    }

    /** "LEFT of a GIFT (what 0), coins it came with (1). BAD." */
    private static void leftOfGifts() {
        Lodge x = new Lodge();
        x.part(2, 1, 999);
        x.gift(1);
        x.gift(1000000);
        x.lay(0);
        Check.due("22: all gone", x.left(0, 0), 0);
        Check.due("22: came with 1", x.left(0, 1), 1);
        Check.due("22: left", x.left(1, 0), 1000000 - 998);
        Check.due("22: came with", x.left(1, 1), 1000000);
        int[] bad = {-1, 2, LOW, HIGH};
        for (int what : bad) {
            Check.due("22: left(0, " + what + ")", x.left(0, what), -1);
        }
        Check.due("22: no such gift", x.left(2, 0), -1);
        Check.due("22: no such gift", x.left(-1, 1), -1);
    }

    /** "How many courses the STATUTE lets lay this month": all of them, not those that are left. */
    private static void askingWorkChangesNothing() {
        Lodge x = walls(2);
        Check.unchanged(x, "23: without a statute", 10, l -> l.work());
        x.lay(0);
        Check.unchanged(x, "23: one is laid", 10, l -> l.work());
        Check.statute(x, 0, "-3d");
        Check.unchanged(x, "23: less by what is done", 2, l -> l.work());
        x.lay(0);
        Check.unchanged(x, "23: less by what is done", 1, l -> l.work());
        Check.unchanged(x, "8: two are done, one is let", -13, l -> l.lay(1));
        x.month(1);
        Check.unchanged(x, "23: a new month", 3, l -> l.work());
    }

    /** "LAID of a PART as it was at the end of a month (0 .. MONTH; of MONTH: now). BAD." */
    private static void endsOfMonths() {
        Lodge x = new Lodge();
        x.part(30, 1, 0);
        Check.due("24: now", x.as(0, 0), 0);
        x.lay(0);
        Check.due("24: now", x.as(0, 0), 1);
        Check.due("24: to come", x.as(0, 1), -1);
        x.month(1);
        Check.due("24: nothing new", x.as(0, 1), 1);
        x.lay(0);
        x.lay(0);
        Check.due("24: now", x.as(0, 1), 3);
        Check.due("24: as it was", x.as(0, 0), 1);
        x.month(100);
        x.lay(0);
        Check.due("24: the month just gone", x.as(0, 100), 3);
        Check.due("24: now", x.as(0, 101), 4);
        Check.due("24: to come", x.as(0, 102), -1);
        Check.due("24: as(0, -1)", x.as(0, -1), -1);
        Check.due("24: as(0, LOW)", x.as(0, LOW), -1);
        Check.due("24: as(0, HIGH)", x.as(0, HIGH), -1);
        for (int i = 0; i < 10; i++) {
            x.month(100);
        }
        x.month(99);
        x.lay(0);
        Check.due("24: 1199", x.as(0, 1199), 4);
        Check.due("24: 1200", x.as(0, 1200), 5);
        Check.due("24: 1201", x.as(0, 1201), -1);
        Check.due("24: month 0 yet", x.as(0, 0), 1);
    }

    /** In a month in which it wasn't there nothing of it lay. */
    private static void asOfAPartThatCameLater() {
        Lodge x = walls(1);
        x.month(2);
        x.part(1, 1, 0);
        x.lay(1);
        Check.due("24: before it came", x.as(1, 1), 0);
        Check.due("24: now", x.as(1, 2), 1);
        Check.due("24: no such part", x.as(2, 2), -1);
        Check.due("24: no such part", x.as(-1, 0), -1);
    }

    /** "Along which SUPPORT the most of a PART's LOAD goes down", the rests with the first one. */
    private static void alongWhichSupport() {
        // weight; 5 and 7 twelfths: 1 is 1 and 0, 2 is 1 and 1, 3 is 2 and 1, 4 is 2 and 2, 12 is 5 and 7
        int[][] cases = {{1, 0}, {2, 0}, {3, 0}, {4, 0}, {12, 1}, {13, 1}, {11, 1}, {5, 0}, {6, 0}, {7, 1}};
        for (int[] c : cases) {
            Lodge x = walls(2);
            x.part(1, c[0], 0);
            x.bear(2, 5, 107, -1, -1);
            layEach(x, 0, 1, 2);
            Check.due("25: down(2) of " + c[0], x.down(2), c[1]);
            Check.due("20: what went there", x.about(1, 3), 20 + 7 * c[0] / 12);
        }
    }

    /** "(of several the first)": of four, each in turn the most, and all alike. */
    private static void ofSeveralTheFirst() {
        for (int most = 0; most < 4; most++) {
            Lodge x = walls(4);
            x.part(1, 12, 0);
            int[] t = {301, 201, 101, 1};
            t[most] += 8;
            x.bear(4, t[0], t[1], t[2], t[3]);
            layEach(x, 0, 1, 2, 3, 4);
            Check.due("25: the most along " + most, x.down(4), 3 - most);
        }
        int[][] told = {{303, 203, 103, 3, 3}, {302, 204, 104, 2, 2}, {302, 202, 104, 4, 1}, {302, 205, 3, 102, 2}};
        for (int[] t : told) {
            Lodge x = walls(4);
            x.part(1, 12, 0);
            x.bear(4, t[0], t[1], t[2], t[3]);
            Check.due("25: nothing lies", x.down(4), 3);
            layEach(x, 0, 1, 2, 3, 4);
            Check.due("25: of several the first", x.down(4), t[4]);
        }
    }

    /** "-5: it stands on the ground, or is on CENTRING. BAD." */
    private static void downOnTheGroundOrCentring() {
        Lodge x = walls(2);
        x.arch(2, 10, 0, 1, 0);
        x.tell(2, 3, 0);
        x.prop(0, 9);
        x.prop(1, 9);
        Check.due("25: on the ground", x.down(0), -5);
        Check.due("25: an arch not begun", x.down(2), 1);
        layEach(x, 0, 1);
        Check.due("25: on the ground, whole", x.down(0), -5);
        x.lay(2);
        Check.due("25: on centring", x.down(2), -5);
        x.lay(2);
        Check.due("25: on centring, whole", x.down(2), -5);
        x.strike(2);
        Check.due("25: struck", x.down(2), 1);
        Check.due("25: down(3)", x.down(3), -1);
        Check.due("25: down(-1)", x.down(-1), -1);
    }

    /** "of a PART and of all on which it stands, till it is WHOLE". */
    private static void needsOfAll() {
        Lodge x = new Lodge();
        for (int p = 0; p < 40; p++) {
            x.part(30, 1, 0);
            if (p > 0) {
                x.bear(p, 100 * p - 88, -1, -1, -1);
            }
        }
        Check.due("26: needs(0)", x.needs(0), 30);
        Check.due("26: needs(39)", x.needs(39), 1200);
        x.lay(0);
        Check.due("26: one less", x.needs(39), 1199);
        Check.due("26: one less", x.needs(0), 29);
        x.edit(39, 1);
        Check.due("26: 29 less", x.needs(39), 1170);
        Check.due("26: not of what stands on it", x.needs(38), 1169);
        x.bear(39, -1, -1, -1, -1);
        Check.due("26: on the ground", x.needs(39), 1);
        x.lay(39);
        Check.due("26: whole", x.needs(39), 0);
        Check.due("26: needs(40)", x.needs(40), -1);
        Check.due("26: needs(-1)", x.needs(-1), -1);
    }

    /** A part on which it stands in several ways is built once. */
    private static void needsEachOnce() {
        Lodge x = new Lodge();
        x.part(1, 1, 0);
        x.part(2, 1, 0);
        x.part(4, 1, 0);
        x.bear(1, 12, -1, -1, -1);
        x.bear(2, 6, 106, -1, -1);
        x.arch(8, 1, 0, 1, 2);
        x.part(16, 1, 0);
        x.bear(4, 303, 203, 103, 3);
        Check.due("26: needs(4)", x.needs(4), 31);
        Check.due("26: needs(3)", x.needs(3), 15);
        Check.due("26: needs(2)", x.needs(2), 7);
        Check.due("26: needs(1)", x.needs(1), 3);
        Check.due("26: the question again", x.needs(4), 31);
        x.lay(0);
        Check.due("26: needs(4)", x.needs(4), 30);
        Check.due("26: needs(0)", x.needs(0), 0);
    }

    /** "0 PARTS .. 9 bytes on THE TAPE. BAD." */
    private static void whatIsCounted() {
        Lodge x = new Lodge();
        x.part(3, 1, 5);
        x.part(3, 1, 7);
        x.part(1, 1, 0);
        x.edit(2, 2);
        x.gift(30);
        x.month(7);
        Check.statute(x, 7, "9");
        Check.statute(x, 9, "9");
        x.lay(0);
        x.month(1);
        x.lay(1);
        x.lay(1);
        x.feed(4, 0);
        int[] want = {3, 1, 8, 1, 2, 3, 11, 19, 2, 4};
        for (int what = 0; what <= 9; what++) {
            Check.due("27: count(" + what + ")", x.count(what), want[what]);
        }
        int[] bad = {-1, 10, LOW, HIGH};
        for (int what : bad) {
            Check.due("27: count(" + what + ")", x.count(what), -1);
        }
    }

    /** All that is limited, at its limit at once. */
    private static void greatestCounts() {
        Lodge x = walls(40);
        for (int i = 0; i < 30; i++) {
            x.gift(1000000);
        }
        for (int i = 0; i < 60; i++) {
            x.edit(39, 30);
        }
        for (int i = 0; i < 20; i++) {
            Check.statute(x, 0, "#99 ");
        }
        for (int i = 0; i < 12; i++) {
            x.month(100);
        }
        for (int i = 0; i < 30; i++) {
            x.lay(39);
        }
        Check.feed(x, "1".repeat(100));
        int[] want = {40, 30, 1200, 60, 30, 30, 30000000, 0, 20, 100};
        for (int what = 0; what <= 9; what++) {
            Check.due("27: count(" + what + ")", x.count(what), want[what]);
        }
        Check.due("2: FULL", x.part(1, 1, 0), -3);
        Check.due("3: FULL", x.arch(1, 1, 0, 0, 1), -3);
        Check.due("4: FULL", x.bear(38, 12, -1, -1, -1), -3);
        Check.due("5: FULL", x.edit(38, 1), -3);
        Check.due("16: FULL", x.feed(1, '1'), -3);
        Check.due("17: FULL", x.gift(1), -3);
        Check.due("18: FULL", x.statute(1200), -3);
        Check.due("13: BAD", x.month(1), -1);
        for (int what = 0; what <= 9; what++) {
            Check.due("27: count(" + what + ") as it was", x.count(what), want[what]);
        }
    }

    /** In 512 calls no load comes near the 1000000 of BEARS at first, so less is told. */
    private static void heaviestChurch() {
        Lodge x = new Lodge();
        Check.statute(x, 0, "#9999 ");
        for (int p = 0; p < 16; p++) {
            x.part(30, 999, 0);
            if (p > 0) {
                x.bear(p, 100 * p - 88, -1, -1, -1);
            }
        }
        x.tell(0, 0, 420000);
        int laid = 0;
        for (int i = 0; i < 430; i++) {
            int got = x.lay(i / 30);
            laid += got > 0 ? 1 : 0;
        }
        Check.due("8: 420 courses of 999", laid, 420);
        Check.due("20: LOAD", x.about(0, 3), 420 * 999);
        Check.due("10: the next one", x.falls(14), 0);
        Check.due("9: the next one", x.may(14), 5);
        x.tell(0, 0, 1000000);
        Check.due("8: the next one", x.lay(14), 1);
    }

    /** Forty parts on one another: what comes down goes through all of them. */
    private static void longestColumn() {
        Lodge x = new Lodge();
        Check.statute(x, 0, "#99 ");
        for (int p = 0; p < 40; p++) {
            x.part(1, p == 39 ? 999 : 1, 0);
            if (p > 0) {
                x.bear(p, 100 * p - 88, -1, -1, -1);
            }
        }
        x.tell(0, 0, 1037);
        for (int p = 0; p < 39; p++) {
            Check.due("8: lay(" + p + ")", x.lay(p), 1);
        }
        Check.due("10: the last one is too much for the first", x.falls(39), 0);
        Check.unchanged(x, "8: the last one", -15, l -> l.lay(39));
        x.tell(0, 0, 1038);
        Check.due("8: the last one", x.lay(39), 1);
        for (int p = 0; p < 40; p++) {
            Check.due("20: LOAD of " + p, x.about(p, 3), 999 + 39 - p);
        }
    }

    /** What asks changes nothing, whatever is asked. */
    private static void questionsChangeNothing() {
        Lodge x = struckArch();
        x.part(3, 7, 2);
        x.bear(3, 211, 1, -1, -1);
        x.gift(9);
        Check.gift(x, 50, "=p3");
        Check.statute(x, 0, "+d2");
        x.lay(3);
        Check.feed(x, "+12");
        String before = x.state();
        for (int p = -1; p <= 4; p++) {
            x.may(p);
            x.falls(p);
            x.down(p);
            x.needs(p);
            x.as(p, 0);
            x.end(1, p);
            x.wanted(1, p);
            x.support(p, 0);
            x.left(0, p);
            x.work();
            for (int what = -1; what <= 13; what++) {
                x.about(p, what);
                x.count(what);
            }
        }
        Check.dueSame("9, 10, 19 to 27: what asks", x, before);
        // 27 lie on the arch and 34 on its left pier: what falls() tries is gone when these are asked
        int[][] loads = {{3, 34}, {6, 13}, {7, 0}};
        for (int[] l : loads) {
            x.falls(3);
            Check.due("20: about(0, " + l[0] + ") behind falls(3)", x.about(0, l[0]), l[1]);
        }
    }
}
