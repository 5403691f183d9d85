/** Promises 8 to 15: lay, may, falls, strike, prop, month, frost, bitter. */
public final class BuildingTest {
    public static void main(String[] args) {
        laying();
        orderOfHindrances();
        paying();
        endsAreAskedAhead();
        loadsAndRests();
        fallingByLoad();
        fallingByNet();
        fallingWhateverHinders();
        striking();
        strikingUnbalances();
        propping();
        monthsGoBy();
        frostAndAge();
        bitterMonths();
        Check.finish();
    }

    private static void laying() {
        Lodge x = new Lodge();
        Check.due("8: lay(0) of none", x.lay(0), -1);
        Check.due("9: may(0) of none", x.may(0), -1);
        Check.due("10: falls(0) of none", x.falls(0), -1);
        x.part(12, 1, 0);
        Check.due("8: lay(-1)", x.lay(-1), -1);
        Check.due("9: may(-1)", x.may(-1), -1);
        Check.due("10: falls(-1)", x.falls(-1), -1);
        Check.due("10: falls(1)", x.falls(1), -1);
        for (int i = 1; i <= 10; i++) {
            Check.due("9: may(0)", x.may(0), 0);
            Check.due("8: lay(0)", x.lay(0), i);
        }
        Check.due("8: ten courses are a month's work", x.lay(0), -13);
        Check.due("9: may(0)", x.may(0), 3);
        Check.due("8: count(4)", x.count(4), 10);
        x.month(1);
        Check.due("8: work begins at 0", x.count(4), 0);
        Check.due("8: lay(0)", x.lay(0), 11);
        x.month(2);
        Check.due("8: AGE", x.about(0, 4), 2);
        Check.due("8: lay(0)", x.lay(0), 12);
        Check.due("8: AGE is 0 with a course", x.about(0, 4), 0);
        Check.due("8: WHOLE", x.lay(0), -11);
        Check.due("9: may(0)", x.may(0), 1);
    }

    private static void orderOfHindrances() {
        Lodge x = new Lodge();
        x.part(1, 10, 5);
        x.part(1, 10, 5);
        x.bear(1, 12, -1, -1, -1);
        x.tell(0, 0, 5);
        Check.statute(x, 0, "0");
        Check.due("9: 2 ahead of 3, 4, 5", x.may(1), 2);
        Check.due("9: 3 ahead of 4, 5", x.may(0), 3);
        Check.due("8: refused so", x.lay(0), -13);
        Check.statute(x, 0, "1");
        Check.due("9: 4 ahead of 5", x.may(0), 4);
        Check.due("8: refused so", x.lay(0), -14);
        x.gift(5);
        String before = x.state();
        Check.due("9: 5", x.may(0), 5);
        Check.due("8: refused so", x.lay(0), -15);
        Check.dueSame("8: lay that is refused", x, before);
        x.tell(0, 0, 10);
        Check.due("8: lay(0)", x.lay(0), 1);
        Check.due("9: 1 ahead of 3, 4, 5", x.may(0), 1);
        Check.statute(x, 0, "-0 1".replace(" ", ""));
        Check.due("9: work done is more than the statute says now", x.may(1), 3);
        Check.statute(x, 0, "2");
        Check.due("9: one more may be laid, but no coins", x.may(1), 4);
    }

    private static void paying() {
        Lodge x = new Lodge();
        x.part(3, 1, 10);
        x.part(3, 1, 0);
        Check.due("8: without coins", x.lay(0), -14);
        Check.due("8: what costs nothing", x.lay(1), 1);
        Check.gift(x, 6, "=p0");
        Check.gift(x, 100, "=p1");
        Check.gift(x, 3, "");
        Check.due("8: 9 are less than 10", x.lay(0), -14);
        Check.gift(x, 50, "-p1");
        Check.due("8: lay(0)", x.lay(0), 1);
        int[] want = {0, 100, 0, 49};
        for (int i = 0; i < 4; i++) {
            Check.due("8: left(" + i + ", 0)", x.left(i, 0), want[i]);
        }
        Check.due("8: paid", x.count(7), 10);
        Check.due("8: lay(0)", x.lay(0), 2);
        Check.due("8: left(3, 0)", x.left(3, 0), 39);
        Check.due("8: lay(1)", x.lay(1), 2);
        Check.due("8: paid", x.count(7), 20);
        Check.due("8: all left", x.count(6), 139);
    }

    private static void endsAreAskedAhead() {
        Lodge x = new Lodge();
        x.part(3, 1, 10);
        Check.gift(x, 100, "=n0");
        Check.gift(x, 100, "&=n1=d1");
        Check.due("8: for the first course", x.lay(0), 1);
        Check.due("8: from the first gift", x.left(0, 0), 90);
        Check.due("8: for the second course", x.lay(0), 2);
        Check.due("8: from the second gift", x.left(1, 0), 90);
        Check.due("8: none for the third", x.lay(0), -14);
    }

    private static void loadsAndRests() {
        Lodge x = new Lodge();
        for (int i = 0; i < 4; i++) {
            x.part(1, 100, 0);
        }
        x.part(1, 11, 0);
        x.bear(4, 305, 205, 101, 1);
        for (int i = 0; i < 5; i++) {
            Check.layAll(x, i);
        }
        // 11 * 5 / 12 is 4, twice; 11 / 12 is 0, twice; 3 are left for the first one
        int[] want = {100, 100, 104, 107};
        for (int i = 0; i < 4; i++) {
            Check.due("20: about(" + i + ", 3)", x.about(i, 3), want[i]);
        }
    }

    private static void fallingByLoad() {
        Lodge x = new Lodge();
        x.part(1, 10, 0);
        x.part(1, 10, 0);
        x.part(3, 7, 0);
        x.bear(2, 103, 9, -1, -1);
        x.tell(0, 0, 15);
        x.tell(1, 0, 12);
        Check.layAll(x, 0);
        Check.layAll(x, 1);
        // 7: 5 to the left foot, 1 and the rest to the other one; 14: 10 and 4
        Check.due("10: falls(2)", x.falls(2), -5);
        Check.due("8: lay(2)", x.lay(2), 1);
        Check.due("10: the least of two", x.falls(2), 0);
        Check.due("9: may(2)", x.may(2), 5);
        Check.due("8: lay(2)", x.lay(2), -15);
        x.tell(0, 0, 20);
        Check.due("10: the other one", x.falls(2), 1);
        x.tell(1, 0, 14);
        Check.due("10: none", x.falls(2), -5);
        x.tell(2, 0, 13);
        Check.due("10: itself", x.falls(2), 2);
        x.tell(2, 0, 14);
        Check.due("8: lay(2)", x.lay(2), 2);
        Check.due("10: by a third one", x.falls(2), 0);
    }

    private static Lodge archOnPiers() {
        Lodge x = new Lodge();
        x.part(1, 100, 0);
        x.part(1, 100, 0);
        x.arch(1, 100, 0, 0, 1);
        x.part(5, 100, 0);
        x.bear(3, 212, -1, -1, -1);
        x.tell(2, 3, 0);
        for (int i = 0; i < 3; i++) {
            Check.layAll(x, i);
        }
        return x;
    }

    private static void fallingByNet() {
        Lodge x = archOnPiers();
        x.prop(0, 100);
        x.prop(1, 50);
        Check.due("11: strike(2)", x.strike(2), 1);
        // with a course on the arch: 200 on it, a push of 100, 200 on each pier, a fourth is 50
        Check.due("10: falls(3)", x.falls(3), -5);
        Check.due("8: lay(3)", x.lay(3), 1);
        // 300, a push of 150, 250 on each pier, a fourth is 62
        Check.due("10: by NET", x.falls(3), 101);
        Check.due("9: may(3)", x.may(3), 5);
        x.prop(0, 87);
        Check.due("10: the least one by NET", x.falls(3), 100);
        x.tell(0, 0, 249);
        Check.due("10: by both: by its load", x.falls(3), 0);
        x.tell(0, 0, 1000000);
        x.prop(0, 88);
        x.tell(1, 1, 38);
        Check.due("10: HOLDS and PROP and a fourth", x.falls(3), -5);
        x.tell(1, 1, 37);
        Check.due("10: one too little", x.falls(3), 101);
        // a wall beside it weighs the pier down
        x.part(1, 4, 0);
        x.bear(4, 112, -1, -1, -1);
        Check.due("8: lay(4)", x.lay(4), 1);
        Check.due("10: and it holds", x.falls(3), -5);
    }

    private static void fallingWhateverHinders() {
        Lodge x = new Lodge();
        x.part(1, 10, 0);
        x.part(1, 10, 0);
        x.bear(1, 12, -1, -1, -1);
        x.part(1, 10, 999);
        x.bear(2, 112, -1, -1, -1);
        x.tell(0, 0, 15);
        Check.due("10: supports aren't begun: none falls", x.falls(2), -5);
        x.tell(2, 0, 9);
        Check.due("10: but itself", x.falls(2), 2);
        x.tell(2, 0, 10);
        x.lay(0);
        Check.due("10: through one that isn't begun, without coins", x.falls(2), 0);
        Check.due("10: WHOLE already", x.falls(0), 0);
        x.tell(0, 0, 20);
        Check.due("10: WHOLE, and it stands", x.falls(0), -5);
        Check.statute(x, 0, "0");
        x.tell(0, 0, 19);
        Check.due("10: no work is let", x.falls(1), 0);
        Check.due("9: may(1)", x.may(1), 3);
        Lodge y = archOnPiers();
        y.tell(2, 0, 0);
        Check.due("10: a course of an arch on centring", y.falls(2), -5);
        y.tell(2, 0, 100);
        y.prop(0, 100);
        y.prop(1, 100);
        y.strike(2);
        Check.due("10: a course more of an arch that is struck", y.falls(2), 2);
        y.tell(2, 0, 1000);
        Check.due("10: it stands", y.falls(2), -5);
        y.prop(1, 49);
        Check.due("10: its push", y.falls(2), 101);
        Check.due("10: changes nothing", y.about(2, 2), 1);
        Lodge z = new Lodge();
        z.part(1, 1, 0);
        z.part(1, 1, 0);
        z.arch(1, 1, 0, 0, 1);
        z.tell(2, 0, 0);
        Check.due("10: centring comes with the first course", z.falls(2), -5);
        Check.due("10: and isn't made by the question", z.about(2, 5), 0);
    }

    private static void striking() {
        Lodge x = new Lodge();
        Check.due("11: strike(0) of none", x.strike(0), -1);
        x.part(1, 100, 0);
        x.part(1, 100, 0);
        x.arch(2, 10, 0, 0, 1);
        Check.due("11: strike(-1)", x.strike(-1), -1);
        Check.due("11: strike(3)", x.strike(3), -1);
        Check.due("11: a wall", x.strike(0), -11);
        Check.due("11: not begun", x.strike(2), -11);
        Check.layAll(x, 0);
        Check.layAll(x, 1);
        Check.due("11: a wall that is whole", x.strike(0), -11);
        x.lay(2);
        Check.due("20: on centring", x.about(2, 5), 1);
        x.month(5);
        Check.due("11: not whole", x.strike(2), -12);
        x.lay(2);
        Check.due("11: its last course is new", x.strike(2), -13);
        x.month(2);
        Check.due("11: two months", x.strike(2), -13);
        x.month(1);
        x.tell(0, 1, 0);
        Check.due("20: nothing comes from an arch on centring", x.about(0, 3), 100);
        x.tell(2, 0, 19);
        Check.unchanged(x, "11: it would fall", -15, l -> l.strike(2));
        x.tell(2, 0, 20);
        Check.due("11: strike(2)", x.strike(2), 1);
        Check.due("20: off centring", x.about(2, 5), 0);
        Check.due("20: its load", x.about(0, 3), 110);
        Check.due("20: its push", x.about(0, 6), 10);
        Check.due("11: struck", x.strike(2), -11);
        Check.due("11: AGE goes on", x.about(2, 4), 3);
    }

    private static void strikingUnbalances() {
        Lodge x = new Lodge();
        for (int i = 0; i < 3; i++) {
            x.part(1, 40, 0);
            Check.layAll(x, i);
        }
        x.arch(1, 100, 0, 0, 1);
        x.arch(1, 100, 0, 1, 2);
        x.part(1, 1, 0);
        x.bear(5, 312, -1, -1, -1);
        for (int i = 3; i < 5; i++) {
            x.tell(i, 3, 0);
            Check.layAll(x, i);
        }
        Check.due("8: on an arch on centring", x.lay(5), -12);
        x.prop(0, 50);
        x.prop(2, 50);
        Check.due("11: the middle pier is pushed", x.strike(3), -15);
        x.prop(1, 50);
        Check.due("11: strike(3)", x.strike(3), 1);
        Check.due("20: to the right", x.about(1, 7), 1);
        Check.due("11: strike(4)", x.strike(4), 1);
        Check.due("20: NET is 0", x.about(1, 6), 0);
        Check.due("20: neither side", x.about(1, 7), 0);
        Check.due("12: it needs no prop now", x.prop(1, 0), 50);
        Check.due("7: less THRUST of one unbalances", x.tell(3, 2, 0), -15);
        Check.due("8: on an arch that is struck", x.lay(5), 1);
    }

    private static void propping() {
        Lodge x = archOnPiers();
        Check.due("12: prop(4, 0)", x.prop(4, 0), -1);
        Check.due("12: prop(-1, 0)", x.prop(-1, 0), -1);
        Check.due("12: prop(0, -1)", x.prop(0, -1), -1);
        Check.due("12: prop(0, 100001)", x.prop(0, 100001), -1);
        Check.due("12: prop(0, 100000)", x.prop(0, 100000), 0);
        Check.due("12: prop(1, 13)", x.prop(1, 13), 0);
        Check.due("11: strike(2)", x.strike(2), 1);
        Check.due("20: about(0, 8)", x.about(0, 8), 100000);
        Check.due("12: less", x.prop(0, 13), 100000);
        Check.due("12: too little", x.prop(0, 12), -15);
        Check.due("12: none", x.prop(0, 0), -15);
        Check.due("20: about(0, 8)", x.about(0, 8), 13);
        Check.due("12: more", x.prop(0, 14), 13);
        Check.due("12: at an arch", x.prop(2, 5), 0);
        Check.due("12: away from it", x.prop(2, 0), 5);
    }

    private static void monthsGoBy() {
        Lodge x = new Lodge();
        Check.due("13: month(0)", x.month(0), -1);
        Check.due("13: month(-1)", x.month(-1), -1);
        Check.due("13: month(101)", x.month(101), -1);
        Check.due("13: month(a great number)", x.month(Integer.MAX_VALUE), -1);
        for (int i = 1; i <= 11; i++) {
            Check.due("13: month(100)", x.month(100), 100 * i);
        }
        Check.due("13: month(99)", x.month(99), 1199);
        Check.due("13: beyond 1200", x.month(2), -1);
        Check.due("13: count(2)", x.count(2), 1199);
        Check.due("13: month(1)", x.month(1), 1200);
        Check.due("13: beyond 1200", x.month(1), -1);
        Check.due("13: a part in the last month", x.part(1, 1, 0), 0);
        Check.due("13: work in the last month", x.lay(0), 1);
        Check.due("24: as(0, 1200)", x.as(0, 1200), 1);
        Check.due("15: bitter(1200)", x.bitter(1200), 1);
        Check.due("15: bitter(1200)", x.bitter(1200), 0);
        Check.due("18: the last month's statute", Check.statute(x, 1200, "f"), 1);
        Check.due("23: work()", x.work(), 1);
    }

    private static void frostAndAge() {
        Lodge x = new Lodge();
        Check.due("14: frost(-1)", x.frost(-1), -1);
        Check.due("14: frost(4096)", x.frost(4096), -1);
        Check.due("14: frost(4095)", x.frost(4095), 0);
        x.part(2, 1, 0);
        x.part(2, 1, 0);
        x.lay(0);
        x.month(12);
        Check.due("14: frost all the year", x.about(0, 4), 0);
        Check.due("14: frost(the first and the last month)", x.frost(1 | 1 << 11), 4095);
        x.month(1);
        Check.due("14: month 0 of the year", x.about(0, 4), 0);
        x.month(10);
        Check.due("14: ten months", x.about(0, 4), 10);
        x.month(1);
        Check.due("14: month 11 of the year", x.about(0, 4), 10);
        x.month(12);
        Check.due("14: another year", x.about(0, 4), 20);
        Check.due("14: a part that isn't begun", x.about(1, 4), 0);
        x.lay(1);
        Check.due("14: frost(0)", x.frost(0), 1 | 1 << 11);
        Check.due("14: AGE stays", x.about(0, 4), 20);
        x.month(1);
        Check.due("14: no frost now", x.about(0, 4), 21);
        Check.due("14: no frost now", x.about(1, 4), 1);
    }

    private static void bitterMonths() {
        Lodge x = new Lodge();
        x.part(1, 1, 0);
        x.lay(0);
        Check.due("15: bitter(-1)", x.bitter(-1), -1);
        Check.due("15: bitter(1201)", x.bitter(1201), -1);
        Check.due("15: bitter(0)", x.bitter(0), 1);
        Check.due("15: bitter(0)", x.bitter(0), 0);
        Check.due("15: bitter(2)", x.bitter(2), 1);
        Check.due("15: bitter(14)", x.bitter(14), 1);
        x.frost(1 << 3);
        Check.due("15: frost of all years isn't bitter", x.bitter(3), 1);
        x.month(1);
        Check.due("15: month 0", x.about(0, 4), 0);
        Check.due("15: a month that went", x.bitter(0), -1);
        x.month(1);
        Check.due("15: month 1", x.about(0, 4), 1);
        x.month(1);
        Check.due("15: month 2", x.about(0, 4), 1);
        x.frost(0);
        x.month(1);
        Check.due("15: month 3 is bitter without the frost", x.about(0, 4), 1);
        x.month(10);
        Check.due("15: just the months told", x.about(0, 4), 11);
        x.month(1);
        Check.due("15: month 14", x.about(0, 4), 11);
        x.month(1);
        Check.due("15: month 15", x.about(0, 4), 12);
    }
}
