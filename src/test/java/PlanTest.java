/** Promises 1 to 7: a new object, part, arch, bear, edit, wanted, tell. */
public final class PlanTest {
    public static void main(String[] args) {
        newObject();
        parts();
        arches();
        bearing();
        bearingHighNumbers();
        bearingAnArch();
        editing();
        editionsAreFull();
        editions();
        telling();
        tellingWouldFall();
        Check.finish();
    }

    private static void newObject() {
        Lodge x = new Lodge();
        for (int what = 0; what <= 9; what++) {
            Check.due("1: count(" + what + ")", x.count(what), 0);
        }
        Check.due("1: work()", x.work(), 10);
        Check.due("1: about(0, 0)", x.about(0, 0), -1);
        Check.due("1: left(0, 0)", x.left(0, 0), -1);
        Check.due("1: wanted(0, 0)", x.wanted(0, 0), -1);
        Check.due("1: frost(0)", x.frost(0), 0);
        Lodge y = new Lodge();
        y.part(1, 1, 1);
        Check.due("1: objects are apart", x.count(0), 0);
    }

    private static void parts() {
        Lodge x = new Lodge();
        int[][] bad = {{0, 1, 1}, {31, 1, 1}, {1, 0, 1}, {1, 1000, 1}, {1, 1, -1}, {1, 1, 1000},
            {Integer.MIN_VALUE, 1, 1}, {1, Integer.MAX_VALUE, 1}, {-1, -1, -1}};
        for (int[] b : bad) {
            Check.due("2: part of bad numbers", x.part(b[0], b[1], b[2]), -1);
        }
        Check.due("2: count(0)", x.count(0), 0);
        Check.due("2: part(1, 1, 0)", x.part(1, 1, 0), 0);
        Check.due("2: part(30, 999, 999)", x.part(30, 999, 999), 1);
        int[] want = {0, 30, 0, 0, 0, 0, 0, 0, 0, 0, 0, 999, 999};
        for (int what = 0; what < want.length; what++) {
            Check.due("2: about(1, " + what + ")", x.about(1, what), want[what]);
        }
        for (int i = 2; i < 40; i++) {
            Check.due("2: part " + i, x.part(1, 1, 0), i);
        }
        Check.due("2: part 40", x.part(1, 1, 0), -3);
        Check.due("2: a bad one when full", x.part(0, 1, 0), -1);
        Check.due("2: count(0)", x.count(0), 40);
        Check.due("3: an arch when full", x.arch(1, 1, 0, 0, 1), -3);
        Check.due("3: a bad arch when full", x.arch(1, 1, 0, 0, 0), -1);
        Check.due("3: count(0)", x.count(0), 40);
    }

    private static void arches() {
        Lodge x = new Lodge();
        x.part(1, 1, 0);
        x.part(1, 1, 0);
        int[][] bad = {{0, 1, 1, 0, 1}, {31, 1, 1, 0, 1}, {1, 0, 1, 0, 1}, {1, 1000, 1, 0, 1},
            {1, 1, -1, 0, 1}, {1, 1, 1000, 0, 1}, {1, 1, 1, 1, 1}, {1, 1, 1, 0, 2}, {1, 1, 1, 2, 0},
            {1, 1, 1, -1, 0}, {1, 1, 1, 0, -1}};
        for (int[] b : bad) {
            Check.due("3: arch of bad numbers", x.arch(b[0], b[1], b[2], b[3], b[4]), -1);
        }
        Check.due("3: arch(30, 999, 999, 1, 0)", x.arch(30, 999, 999, 1, 0), 2);
        Check.due("3: about(2, 0)", x.about(2, 0), 1);
        Check.due("3: about(2, 5)", x.about(2, 5), 0);
        Check.due("3: about(2, 9)", x.about(2, 9), 2);
        Check.due("3: support(2, 0)", x.support(2, 0), 106);
        Check.due("3: support(2, 1)", x.support(2, 1), 6);
        Check.due("3: no edition comes", x.count(3), 0);
        Check.due("3: an arch on an arch", x.arch(1, 1, 1, 2, 0), 3);
    }

    private static void bearing() {
        Lodge x = new Lodge();
        for (int i = 0; i < 6; i++) {
            x.part(2, 12, 0);
        }
        int[][] bad = {{6, -1, -1, -1, -1}, {-1, -1, -1, -1, -1}, {5, -1, 12, -1, -1}, {5, 6, -1, 106, -1},
            {5, -2, -1, -1, -1}, {5, 6, 106, -1, -2}, {5, 0, 112, -1, -1}, {5, 13, -1, -1, -1},
            {5, 512, -1, -1, -1}, {5, 612, -1, -1, -1}, {5, 6, 6, -1, -1}, {5, 6, 105, -1, -1},
            {5, 6, 107, -1, -1}, {5, 6, 103, 3, -1}, {5, 11, -1, -1, -1}, {0, 12, -1, -1, -1},
            {3, 412, -1, -1, -1}, {3, 312, -1, -1, -1}, {5, Integer.MIN_VALUE, -1, -1, -1},
            {5, Integer.MAX_VALUE, -1, -1, -1}, {5, 99, -1, -1, -1}, {5, -88, -1, -1, -1}};
        String before = x.state();
        for (int[] b : bad) {
            Check.due("4: bear(" + b[0] + ", " + b[1] + " ..)", x.bear(b[0], b[1], b[2], b[3], b[4]), -1);
        }
        Check.dueSame("4: bear that is BAD", x, before);
        Check.due("4: four supports", x.bear(5, 303, 1, 207, 101), 4);
        int[] want = {303, 1, 207, 101};
        for (int i = 0; i < 4; i++) {
            Check.due("4: support(5, " + i + ")", x.support(5, i), want[i]);
        }
        Check.due("4: an edition came", x.count(3), 1);
        Check.due("4: one support", x.bear(5, 412, -1, -1, -1), 1);
        Check.due("4: support(5, 1)", x.support(5, 1), -1);
        Check.due("4: about(3, 10)", x.about(3, 10), 0);
        Check.due("4: about(4, 10)", x.about(4, 10), 1);
        Check.due("4: none", x.bear(5, -1, -1, -1, -1), 0);
        Check.due("4: about(5, 9)", x.about(5, 9), 0);
        Check.due("4: the same again is an edition too", x.bear(5, -1, -1, -1, -1), 0);
        Check.due("4: editions", x.count(3), 4);
        x.lay(5);
        before = x.state();
        Check.due("4: BEGUN", x.bear(5, 12, -1, -1, -1), -2);
        Check.due("4: BEGUN, but BAD first", x.bear(5, 11, -1, -1, -1), -1);
        Check.dueSame("4: bear of a begun part", x, before);
    }

    private static void bearingHighNumbers() {
        Lodge x = new Lodge();
        for (int i = 0; i < 40; i++) {
            x.part(1, 1, 0);
        }
        Check.due("4: the last but one", x.bear(39, 3801, 3711, -1, -1), 2);
        Check.due("21: support(39, 0)", x.support(39, 0), 3801);
        Check.due("21: support(39, 1)", x.support(39, 1), 3711);
        Check.due("20: about(38, 10)", x.about(38, 10), 1);
        Check.due("4: itself", x.bear(39, 3901, 3711, -1, -1), -1);
        Check.due("4: itself", x.bear(38, 3801, 3711, -1, -1), -1);
        Check.due("4: one that isn't", x.bear(39, 4001, 3711, -1, -1), -1);
        Check.due("4: two are one", x.bear(39, 3801, 3711, -1, -1), 2);
        Check.due("4: two are one", x.bear(39, 3801, 3811, -1, -1), -1);
        Check.due("4: two are one, the last", x.bear(39, 3801, 201, 103, 207), -1);
        for (int p = 40; p < 42; p++) {
            Check.due("20: about(" + p + ", 0)", x.about(p, 0), -1);
            Check.due("8: lay(" + p + ")", x.lay(p), -1);
            Check.due("26: needs(" + p + ")", x.needs(p), -1);
            Check.due("6: wanted(0, " + p + ")", x.wanted(0, p), -1);
        }
    }

    private static void bearingAnArch() {
        Lodge x = new Lodge();
        for (int i = 0; i < 4; i++) {
            x.part(1, 10, 0);
        }
        x.arch(1, 10, 0, 0, 1);
        Check.due("4: an arch on none", x.bear(4, -1, -1, -1, -1), -1);
        Check.due("4: an arch on one", x.bear(4, 12, -1, -1, -1), -1);
        Check.due("4: an arch on four", x.bear(4, 303, 203, 103, 3), 4);
        for (int i = 0; i < 5; i++) {
            x.tell(i, 3, 0);
            Check.layAll(x, i);
        }
        x.prop(2, 100);
        x.prop(3, 100);
        Check.due("4: strike(4)", x.strike(4), 1);
        Check.due("4: the first one is LEFT", x.about(3, 6), 5);
        Check.due("4: the first one is pushed to the left", x.about(3, 7), 0);
        Check.due("4: the second one is RIGHT", x.about(2, 6), 5);
        Check.due("4: the second one is pushed to the right", x.about(2, 7), 1);
        Check.due("4: the third one isn't pushed", x.about(1, 6), 0);
        Check.due("4: BEGUN, but fewer than two first", x.bear(4, 12, -1, -1, -1), -1);
        Check.due("4: BEGUN", x.bear(4, 6, 106, -1, -1), -2);
    }

    private static void editing() {
        Lodge x = new Lodge();
        x.part(5, 1, 0);
        int[][] bad = {{1, 5}, {-1, 5}, {0, 0}, {0, 31}, {0, -1}};
        for (int[] b : bad) {
            Check.due("5: edit(" + b[0] + ", " + b[1] + ")", x.edit(b[0], b[1]), -1);
        }
        Check.due("5: edit(0, 30)", x.edit(0, 30), 1);
        Check.due("5: about(0, 1)", x.about(0, 1), 30);
        Check.due("5: edit(0, 1)", x.edit(0, 1), 2);
        Check.due("5: the same again", x.edit(0, 1), 3);
        Check.due("5: lay(0)", x.lay(0), 1);
        Check.due("5: BEGUN", x.edit(0, 2), -2);
        Check.due("5: BEGUN, but BAD first", x.edit(0, 31), -1);
        Check.due("5: count(3)", x.count(3), 3);
        Check.due("5: about(0, 1)", x.about(0, 1), 1);
    }

    private static void editionsAreFull() {
        Lodge x = new Lodge();
        x.part(5, 1, 0);
        x.part(5, 1, 0);
        x.part(5, 1, 0);
        x.lay(2);
        for (int i = 1; i <= 59; i++) {
            Check.due("5: edition " + i, x.edit(0, 1 + i % 30), i);
        }
        Check.due("4: the last edition", x.bear(1, 12, -1, -1, -1), 1);
        String before = x.state();
        Check.due("5: edit when full", x.edit(0, 7), -3);
        Check.due("4: bear when full", x.bear(1, -1, -1, -1, -1), -3);
        Check.due("5: BAD before FULL", x.edit(0, 31), -1);
        Check.due("5: NOT before FULL", x.edit(2, 7), -2);
        Check.due("4: BAD before FULL", x.bear(1, 11, -1, -1, -1), -1);
        Check.due("4: NOT before FULL", x.bear(2, 12, -1, -1, -1), -2);
        Check.dueSame("4, 5: a change when full", x, before);
        Check.due("6: wanted(60, 0)", x.wanted(60, 0), 30);
        Check.due("6: wanted(61, 0)", x.wanted(61, 0), -1);
        for (int i = 1; i <= 59; i++) {
            Check.due("6: wanted(" + i + ", 0)", x.wanted(i, 0), 1 + i % 30);
        }
    }

    private static void editions() {
        Lodge x = new Lodge();
        x.part(4, 1, 0);
        x.part(6, 1, 0);
        x.edit(0, 9);
        x.bear(1, 12, -1, -1, -1);
        x.part(8, 1, 0);
        x.edit(1, 7);
        x.edit(2, 3);
        int[][] want = {{4, 6, 8}, {9, 6, -1}, {9, 6, -1}, {9, 7, 8}, {9, 7, 3}, {-1, -1, -1}};
        for (int e = 0; e < want.length; e++) {
            for (int p = 0; p < 3; p++) {
                Check.due("6: wanted(" + e + ", " + p + ")", x.wanted(e, p), want[e][p]);
            }
        }
        Check.due("6: wanted(-1, 0)", x.wanted(-1, 0), -1);
        Check.due("6: wanted(0, 3)", x.wanted(0, 3), -1);
        Check.due("6: wanted(1, 3)", x.wanted(1, 3), -1);
        Check.due("6: wanted(0, -1)", x.wanted(0, -1), -1);
    }

    private static void telling() {
        Lodge x = new Lodge();
        x.part(1, 1, 0);
        x.part(1, 1, 0);
        x.arch(1, 1, 0, 0, 1);
        int[] most = {1000000, 100000, 100, 24};
        int[] first = {1000000, 0, 50, 3};
        for (int what = 0; what < 4; what++) {
            for (int part = 0; part < 3; part += 2) {
                String call = "7: tell(" + part + ", " + what + ", ";
                Check.due(call + "-1)", x.tell(part, what, -1), -1);
                Check.due(call + "too much)", x.tell(part, what, most[what] + 1), -1);
                Check.due(call + "0)", x.tell(part, what, 0), first[what]);
                Check.due(call + "most)", x.tell(part, what, most[what]), 0);
                Check.due(call + "1)", x.tell(part, what, 1), most[what]);
                Check.due(call + "first)", x.tell(part, what, first[what]), 1);
            }
        }
        Check.due("7: tell(0, 4, 0)", x.tell(0, 4, 0), -1);
        Check.due("7: tell(0, -1, 0)", x.tell(0, -1, 0), -1);
        Check.due("7: tell(3, 0, 0)", x.tell(3, 0, 0), -1);
        Check.due("7: tell(-1, 0, 0)", x.tell(-1, 0, 0), -1);
    }

    private static void tellingWouldFall() {
        Lodge x = new Lodge();
        x.part(1, 100, 0);
        x.part(1, 100, 0);
        x.arch(1, 100, 0, 0, 1);
        x.tell(2, 3, 0);
        Check.due("7: BEARS of what isn't begun", x.tell(0, 0, 0), 1000000);
        Check.due("7: and by that its course", x.falls(0), 0);
        x.tell(0, 0, 100);
        Check.layAll(x, 0);
        Check.due("7: less than lies on it", x.tell(0, 0, 99), -15);
        Check.due("7: as much as lies on it", x.tell(0, 0, 100), 100);
        x.tell(0, 0, 1000000);
        Check.layAll(x, 1);
        Check.layAll(x, 2);
        Check.due("7: neither is asked on centring", x.tell(2, 0, 0), 1000000);
        Check.due("7: but when it is struck", x.strike(2), -15);
        x.tell(2, 0, 100);
        // on each pier 150 lie then: 37 of these, and 13 more, meet the push of 50
        x.tell(0, 1, 13);
        x.tell(1, 1, 12);
        Check.due("7: HOLDS one too little", x.strike(2), -15);
        Check.due("7: HOLDS was", x.tell(1, 1, 13), 12);
        Check.due("7: HOLDS enough", x.strike(2), 1);
        String before = x.state();
        Check.due("7: HOLDS less", x.tell(1, 1, 12), -15);
        Check.due("7: THRUST more", x.tell(2, 2, 51), -15);
        Check.dueSame("7: tell that is refused", x, before);
        Check.due("7: THRUST wasn't changed", x.tell(2, 2, 50), 50);
        Check.due("7: THRUST less", x.tell(2, 2, 49), 50);
        Check.due("7: HOLDS less is enough now", x.tell(1, 1, 12), 13);
        Check.due("7: HARD of what is struck", x.tell(2, 3, 24), 0);
        Check.due("7: BEARS of the arch", x.tell(2, 0, 99), -15);
    }
}
