/** Promises 20 to 27: about, support, left, work, as, down, needs, count. */
public final class ToldTest {
    public static void main(String[] args) {
        about();
        aboutAfterQuestions();
        supports();
        left();
        asItWas();
        down();
        needs();
        counts();
        greatest();
        Check.finish();
    }

    private static void about() {
        Lodge x = new Lodge();
        x.part(2, 100, 1);
        x.part(2, 90, 2);
        x.arch(2, 51, 3, 0, 1);
        x.part(4, 7, 4);
        x.bear(3, 207, 5, -1, -1);
        x.gift(1000);
        x.tell(2, 2, 33);
        for (int i = 0; i < 3; i++) {
            Check.layAll(x, i);
        }
        x.month(4);
        x.prop(0, 9);
        Check.due("11: strike(2)", x.strike(2), 1);
        x.lay(3);
        x.month(1);
        // 7 on part 3: 4 and the rest of 1 go to the arch, 2 to part 0; 107 on the arch, a push of 35
        int[][] want = {
            {0, 2, 2, 256, 5, 0, 35, 0, 9, 0, 2, 100, 1},
            {0, 2, 2, 233, 5, 0, 35, 1, 0, 0, 1, 90, 2},
            {1, 2, 2, 107, 5, 0, 0, 0, 0, 2, 1, 51, 3},
            {0, 4, 1, 7, 1, 0, 0, 0, 0, 2, 0, 7, 4}};
        for (int p = 0; p < 4; p++) {
            for (int what = 0; what <= 12; what++) {
                Check.due("20: about(" + p + ", " + what + ")", x.about(p, what), want[p][what]);
            }
        }
        Check.due("20: about(0, 13)", x.about(0, 13), -1);
        Check.due("20: about(0, -1)", x.about(0, -1), -1);
        Check.due("20: about(4, 0)", x.about(4, 0), -1);
        Check.due("20: about(-1, 0)", x.about(-1, 0), -1);
    }

    /** What falls() and may() try out is gone when the load is asked. */
    private static void aboutAfterQuestions() {
        Lodge x = new Lodge();
        x.part(1, 50, 0);
        x.part(1, 50, 0);
        x.arch(1, 2, 0, 1, 0);
        x.part(2, 12, 0);
        x.bear(3, 212, -1, -1, -1);
        x.tell(2, 3, 0);
        for (int i = 0; i < 3; i++) {
            Check.layAll(x, i);
        }
        Check.due("11: strike(2)", x.strike(2), 1);
        x.falls(3);
        Check.due("20: LOAD", x.about(2, 3), 2);
        x.falls(3);
        Check.due("20: NET", x.about(0, 6), 1);
        x.falls(3);
        Check.due("20: the least NET to the right", x.about(0, 7), 1);
        Check.due("20: and to the left", x.about(1, 7), 0);
        x.may(3);
        Check.due("20: LOAD", x.about(3, 3), 0);
        x.lay(3);
        x.falls(3);
        Check.due("20: LOAD", x.about(3, 3), 12);
        Check.due("20: NET", x.about(1, 6), 7);
    }

    private static void supports() {
        Lodge x = new Lodge();
        x.part(1, 1, 0);
        x.part(1, 1, 0);
        x.part(1, 1, 0);
        x.bear(2, 111, 1, -1, -1);
        Check.due("21: support(2, 0)", x.support(2, 0), 111);
        Check.due("21: support(2, 1)", x.support(2, 1), 1);
        Check.due("21: support(2, 2)", x.support(2, 2), -1);
        Check.due("21: support(2, -1)", x.support(2, -1), -1);
        Check.due("21: support(2, 4)", x.support(2, 4), -1);
        Check.due("21: support(0, 0)", x.support(0, 0), -1);
        Check.due("21: support(3, 0)", x.support(3, 0), -1);
        Check.due("21: support(-1, 0)", x.support(-1, 0), -1);
    }

    private static void left() {
        Lodge x = new Lodge();
        x.gift(100);
        x.part(2, 1, 30);
        x.lay(0);
        Check.due("22: left(0, 0)", x.left(0, 0), 70);
        Check.due("22: left(0, 1)", x.left(0, 1), 100);
        Check.due("22: left(0, 2)", x.left(0, 2), -1);
        Check.due("22: left(0, -1)", x.left(0, -1), -1);
        Check.due("22: left(1, 0)", x.left(1, 0), -1);
        Check.due("22: left(-1, 0)", x.left(-1, 0), -1);
    }

    private static void asItWas() {
        Lodge x = new Lodge();
        x.part(6, 1, 0);
        Check.due("24: as(0, 0)", x.as(0, 0), 0);
        x.lay(0);
        x.lay(0);
        x.month(1);
        x.lay(0);
        Check.due("24: now", x.as(0, 1), 3);
        x.month(2);
        x.lay(0);
        x.part(1, 1, 0);
        x.lay(1);
        x.month(1);
        int[] want = {2, 3, 3, 4, 4};
        for (int m = 0; m < 5; m++) {
            Check.due("24: as(0, " + m + ")", x.as(0, m), want[m]);
        }
        Check.due("24: a part that came later", x.as(1, 2), 0);
        Check.due("24: as(1, 3)", x.as(1, 3), 1);
        Check.due("24: as(0, 5)", x.as(0, 5), -1);
        Check.due("24: as(0, -1)", x.as(0, -1), -1);
        Check.due("24: as(2, 0)", x.as(2, 0), -1);
        Check.due("24: as(-1, 0)", x.as(-1, 0), -1);
    }

    private static void down() {
        Lodge x = new Lodge();
        for (int i = 0; i < 3; i++) {
            x.part(1, 1, 0);
        }
        x.part(20, 1, 0);
        x.bear(3, 205, 106, 1, -1);
        x.arch(1, 5, 0, 1, 0);
        Check.due("25: on the ground", x.down(0), -5);
        Check.due("25: nothing lies: the first", x.down(3), 2);
        for (int i = 0; i < 3; i++) {
            Check.layAll(x, i);
        }
        // 2: 0 and the rest of 1, 1, 0; 3: 1 and the rest of 1, 1, 0; 12: 5, 6, 1
        Check.due("8: lay(3)", x.lay(3), 1);
        Check.due("25: the rest", x.down(3), 2);
        Check.due("8: lay(3)", x.lay(3), 2);
        Check.due("25: of several the first", x.down(3), 2);
        Check.due("25: an arch not begun", x.down(4), 1);
        x.lay(4);
        Check.due("25: on centring", x.down(4), -5);
        x.month(3);
        x.prop(0, 9);
        x.prop(1, 9);
        Check.due("11: strike(4)", x.strike(4), 1);
        Check.due("25: struck", x.down(4), 1);
        while (x.about(3, 2) < 12) {
            if (x.lay(3) < 0) {
                x.month(1);
            }
        }
        Check.due("25: by the share", x.down(3), 1);
        x.part(6, 12, 0);
        Check.due("4: three supports", x.bear(5, 1, 101, 210, -1), 3);
        Check.due("25: all to the first as long as nothing lies", x.down(5), 0);
        Check.due("4: two supports", x.bear(5, 6, 106, -1, -1), 2);
        x.month(1);
        Check.due("8: lay(5)", x.lay(5), 1);
        Check.due("25: the third one isn't any more", x.down(5), 0);
        Check.due("25: down(6)", x.down(6), -1);
        Check.due("25: down(-1)", x.down(-1), -1);
    }

    private static void needs() {
        Lodge x = new Lodge();
        x.part(3, 1, 0);
        x.part(5, 1, 0);
        x.arch(2, 1, 0, 0, 1);
        x.part(7, 1, 0);
        x.part(4, 1, 0);
        x.bear(4, 206, 6, -1, -1);
        x.part(9, 1, 0);
        x.bear(5, 406, 206, -1, -1);
        int[] want = {3, 5, 10, 7, 14, 23};
        for (int p = 0; p < 6; p++) {
            Check.due("26: needs(" + p + ")", x.needs(p), want[p]);
        }
        x.lay(0);
        x.lay(0);
        x.lay(1);
        x.edit(5, 1);
        int[] then = {1, 4, 7, 7, 11, 12};
        for (int p = 0; p < 6; p++) {
            Check.due("26: needs(" + p + ")", x.needs(p), then[p]);
        }
        Check.due("26: needs(6)", x.needs(6), -1);
        Check.due("26: needs(-1)", x.needs(-1), -1);
    }

    private static void counts() {
        Lodge x = new Lodge();
        x.part(3, 1, 5);
        x.part(3, 1, 7);
        x.edit(0, 4);
        x.gift(100);
        x.gift(11);
        x.month(3);
        Check.statute(x, 3, "9");
        x.lay(0);
        x.month(1);
        x.lay(1);
        x.lay(1);
        Check.feed(x, "+12");
        int[] want = {2, 2, 4, 1, 2, 3, 92, 19, 1, 3};
        for (int what = 0; what < want.length; what++) {
            Check.due("27: count(" + what + ")", x.count(what), want[what]);
        }
        Check.due("27: count(10)", x.count(10), -1);
        Check.due("27: count(-1)", x.count(-1), -1);
    }

    /** The heaviest church: what lies on the lowest part is far from where an int would wrap. */
    private static void greatest() {
        Lodge x = new Lodge();
        Check.statute(x, 0, "#99999 ");
        for (int i = 0; i < 17; i++) {
            x.part(30, 999, 0);
            if (i > 0) {
                x.bear(i, 100 * (i - 1) + 12, -1, -1, -1);
            }
        }
        int laid = 0;
        for (int i = 0; i < 15; i++) {
            for (int k = 0; k < 30; k++) {
                x.lay(i);
                laid++;
            }
        }
        Check.due("20: about(0, 3)", x.about(0, 3), 999 * laid);
        Check.due("27: count(5)", x.count(5), 450);
    }
}
