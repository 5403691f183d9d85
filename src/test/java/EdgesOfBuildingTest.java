/** The edges that the document names for building: promises 8 to 15, and what the terms say of loads and months. */
public final class EdgesOfBuildingTest {
    private static final int LOW = Integer.MIN_VALUE, HIGH = Integer.MAX_VALUE;

    public static void main(String[] args) {
        whole();
        supportsNotWhole();
        supportOnCentring();
        asMuchAsTheStatuteSays();
        tenWithoutAStatute();
        lessThanPrice();
        firstOneFirst();
        endsAreAskedAhead();
        wholeAheadOfAll();
        supportsAheadOfTheRest();
        workAheadOfCoinsAndFalling();
        coinsAheadOfFalling();
        loadAndBears();
        netAndWhatHolds();
        aFourthOfTheLoad();
        restOfThePushAway();
        restsToTheFirstSupport();
        leastPartThatFalls();
        neitherOnCentring();
        ageAndWorkOfACourse();
        strikeInOrder();
        hardFromNoneToTwoYears();
        propsLess();
        propsOfParts();
        monthsAtOnce();
        lastMonth();
        theMonthThatWent();
        twelveBits();
        monthsToComeAreBitter();
        Check.finish();
    }

    private static Lodge walls(int n) {
        Lodge x = new Lodge();
        for (int i = 0; i < n; i++) {
            x.part(2, 10, 0);
        }
        return x;
    }

    private static void layBoth(Lodge x, int... parts) {
        for (int p : parts) {
            Check.layAll(x, p);
        }
    }

    /** Two piers of 20 and an arch of 20 on centring, soon hard; 30 lie on each pier when it is struck. */
    private static Lodge archOnCentring() {
        Lodge x = walls(2);
        x.arch(2, 10, 0, 0, 1);
        x.tell(2, 3, 0);
        layBoth(x, 0, 1, 2);
        return x;
    }

    /** "WHOLE if as many as wanted": the last course is laid, one more is refused with 1. */
    private static void whole() {
        int[] wanted = {1, 2, 30};
        for (int n : wanted) {
            Lodge x = new Lodge();
            Check.statute(x, 0, "#99 ");
            x.part(n, 1, 0);
            for (int i = 1; i < n; i++) {
                x.lay(0);
            }
            Check.due("9: the last of " + n, x.may(0), 0);
            Check.due("8: the last of " + n, x.lay(0), n);
            Check.due("9: one more", x.may(0), 1);
            Check.unchanged(x, "8: one more", -11, l -> l.lay(0));
        }
    }

    /** "one of its SUPPORTS is not WHOLE": each of the four is asked, and one course short is too few. */
    private static void supportsNotWhole() {
        for (int missing = 0; missing < 4; missing++) {
            Lodge x = walls(5);
            x.bear(4, 303, 203, 103, 3);
            for (int p = 0; p < 4; p++) {
                x.lay(p);
                if (p != missing) {
                    x.lay(p);
                }
            }
            int last = missing;
            Check.due("9: one course short below", x.may(4), 2);
            Check.unchanged(x, "8: one course short below", -12, l -> l.lay(4));
            x.lay(last);
            Check.due("9: all whole below", x.may(4), 0);
            Check.due("8: all whole below", x.lay(4), 1);
        }
    }

    /** "or is on CENTRING": WHOLE doesn't do. */
    private static void supportOnCentring() {
        Lodge x = archOnCentring();
        x.part(1, 1, 0);
        x.bear(3, 11, 201, -1, -1);
        Check.unchanged(x, "8: on centring", -12, l -> l.lay(3));
        x.prop(0, 9);
        x.prop(1, 9);
        Check.due("11: strike(2)", x.strike(2), 1);
        Check.due("8: struck", x.lay(3), 1);
    }

    /** "WORK DONE is as much as the STATUTE says": one less is not, more is. */
    private static void asMuchAsTheStatuteSays() {
        Lodge x = walls(4);
        Check.statute(x, 0, "3");
        x.lay(0);
        x.lay(0);
        Check.due("9: one less", x.may(1), 0);
        Check.due("8: one less", x.lay(1), 1);
        Check.unchanged(x, "8: as much", -13, l -> l.lay(1));
        Check.statute(x, 0, "2");
        Check.unchanged(x, "8: more", -13, l -> l.lay(1));
        Check.statute(x, 0, "4");
        Check.due("8: one less again", x.lay(1), 2);
        x.month(1);
        Check.statute(x, 1, "0");
        Check.unchanged(x, "8: nothing done, nothing let", -13, l -> l.lay(2));
        Check.statute(x, 1, "-01");
        Check.unchanged(x, "8: less than 0 is 0", -13, l -> l.lay(2));
        Check.statute(x, 1, "1");
        Check.due("8: one let", x.lay(2), 1);
        Check.unchanged(x, "8: one done", -13, l -> l.lay(2));
    }

    /** "without one 10". */
    private static void tenWithoutAStatute() {
        Lodge x = walls(6);
        Check.statute(x, 1, "1");
        for (int i = 0; i < 9; i++) {
            x.lay(i / 2);
        }
        Check.due("8: the tenth", x.lay(4), 2);
        Check.unchanged(x, "8: the eleventh", -13, l -> l.lay(5));
        x.month(1);
        Check.due("8: the statute's one", x.lay(5), 1);
        Check.due("8: and no more", x.lay(5), -13);
    }

    /** "all LEFT of the GIFTS whose END holds for it is less than PRICE". */
    private static void lessThanPrice() {
        Lodge x = new Lodge();
        x.part(9, 1, 0);
        x.part(9, 1, 1);
        x.part(9, 1, 999);
        Check.due("8: what costs nothing, without gifts", x.lay(0), 1);
        Check.unchanged(x, "8: 0 are less than 1", -14, l -> l.lay(1));
        Check.gift(x, 998, "=p2");
        Check.unchanged(x, "8: the end doesn't hold", -14, l -> l.lay(1));
        Check.unchanged(x, "8: 998 are less than 999", -14, l -> l.lay(2));
        Check.gift(x, 1000000, "0");
        Check.unchanged(x, "8: an end that says 0", -14, l -> l.lay(2));
        Check.gift(x, 1, "-01");
        Check.due("9: an end that says -1 holds", x.may(2), 0);
        Check.due("8: 999 are not less", x.lay(2), 1);
        Check.due("22: all of the first", x.left(0, 0), 0);
        Check.due("22: all of the third", x.left(2, 0), 0);
        Check.due("22: none of the second", x.left(1, 0), 1000000);
        Check.unchanged(x, "8: nothing left for it", -14, l -> l.lay(1));
        Check.due("8: what costs nothing", x.lay(0), 2);
        x.gift(1);
        Check.due("8: 1 is not less than 1", x.lay(1), 1);
        Check.due("27: paid", x.count(7), 1000);
    }

    /** "from these GIFTS, the first one first, as far as each goes". */
    private static void firstOneFirst() {
        Lodge x = new Lodge();
        x.part(9, 1, 10);
        int[] coins = {10, 9, 1, 11, 5};
        for (int c : coins) {
            x.gift(c);
        }
        int[][] left = {{0, 9, 1, 11, 5}, {0, 0, 0, 11, 5}, {0, 0, 0, 1, 5}};
        for (int i = 0; i < 3; i++) {
            Check.due("8: lay(0)", x.lay(0), i + 1);
            for (int g = 0; g < 5; g++) {
                Check.due("22: left(" + g + ", 0) after course " + (i + 1), x.left(g, 0), left[i][g]);
                Check.due("22: left(" + g + ", 1) stays", x.left(g, 1), coins[g]);
            }
        }
        Check.unchanged(x, "8: 6 are less than 10", -14, l -> l.lay(0));
    }

    /** "(The ends are asked ahead of the course.)": with what each name means just before it. */
    private static void endsAreAskedAhead() {
        String[] texts = {"=n1", "=d1", "=m1", "f", "y"};
        for (String text : texts) {
            Lodge x = new Lodge();
            x.part(3, 1, 1);
            Check.gift(x, 1, text);
            Check.due("9: '" + text + "' doesn't hold yet", x.may(0), 4);
            Check.gift(x, 1, "=n0");
            Check.due("8: by the other one", x.lay(0), 1);
            Check.due("22: of '" + text + "' nothing", x.left(0, 0), 1);
            if ("=m1".equals(text)) {
                Check.due("9: not in month 0", x.may(0), 4);
                x.month(1);
            } else if ("f".equals(text)) {
                Check.due("9: not without frost", x.may(0), 4);
                x.bitter(0);
            } else if ("y".equals(text)) {
                x.month(11);
                Check.due("9: not in month 11", x.may(0), 4);
                x.month(1);
            }
            Check.due("9: '" + text + "' holds", x.may(0), 0);
            Check.due("8: '" + text + "' holds", x.lay(0), 2);
            Check.due("22: all of '" + text + "'", x.left(0, 0), 0);
        }
    }

    /** 1 ahead of 3, 4 and 5. (With 2 it can't be: what is WHOLE stands on what is.) */
    private static void wholeAheadOfAll() {
        Lodge x = new Lodge();
        x.part(1, 10, 5);
        x.tell(0, 0, 10);
        x.gift(5);
        x.lay(0);
        Check.statute(x, 0, "1");
        Check.due("10: by a course more", x.falls(0), 0);
        Check.due("9: 1 ahead of 3, 4, 5", x.may(0), 1);
        Check.unchanged(x, "8: 1 ahead of 3, 4, 5", -11, l -> l.lay(0));
    }

    /** 2 ahead of 3, 4 and 5. */
    private static void supportsAheadOfTheRest() {
        Lodge x = new Lodge();
        x.part(1, 10, 0);
        x.part(1, 10, 5);
        x.bear(1, 12, -1, -1, -1);
        x.tell(1, 0, 9);
        Check.statute(x, 0, "0");
        Check.due("10: by its course", x.falls(1), 1);
        Check.due("9: 2 ahead of 3, 4, 5", x.may(1), 2);
        Check.unchanged(x, "8: 2 ahead of 3, 4, 5", -12, l -> l.lay(1));
    }

    /** 3 ahead of 4 and 5, each alone and both. */
    private static void workAheadOfCoinsAndFalling() {
        Lodge x = new Lodge();
        x.part(1, 10, 5);
        Check.statute(x, 0, "0");
        Check.due("9: 3 ahead of 4", x.may(0), 3);
        x.tell(0, 0, 9);
        Check.unchanged(x, "8: 3 ahead of 4 and 5", -13, l -> l.lay(0));
        x.gift(5);
        Check.due("9: 3 ahead of 5", x.may(0), 3);
        Check.unchanged(x, "8: 3 ahead of 5", -13, l -> l.lay(0));
    }

    /** 4 ahead of 5; then 5 alone, then nothing. */
    private static void coinsAheadOfFalling() {
        Lodge x = new Lodge();
        x.part(1, 10, 5);
        x.tell(0, 0, 9);
        x.gift(4);
        Check.due("9: 4 ahead of 5", x.may(0), 4);
        Check.unchanged(x, "8: 4 ahead of 5", -14, l -> l.lay(0));
        x.gift(1);
        Check.due("9: 5 alone", x.may(0), 5);
        Check.unchanged(x, "8: 5 alone", -15, l -> l.lay(0));
        x.tell(0, 0, 10);
        Check.due("9: nothing hinders", x.may(0), 0);
        Check.due("8: lay(0)", x.lay(0), 1);
    }

    /** "FALLS if its LOAD is more than BEARS": as much is not more. */
    private static void loadAndBears() {
        Lodge x = walls(2);
        x.bear(1, 12, -1, -1, -1);
        x.tell(0, 0, 30);
        x.tell(1, 0, 10);
        layBoth(x, 0);
        Check.due("10: as much on both", x.falls(1), -5);
        Check.due("8: as much on both", x.lay(1), 1);
        Check.due("10: more on both: the least", x.falls(1), 0);
        Check.unchanged(x, "8: more on both", -15, l -> l.lay(1));
        x.tell(0, 0, 40);
        Check.due("10: more on the upper one", x.falls(1), 1);
        Check.unchanged(x, "8: more on the upper one", -15, l -> l.lay(1));
        x.tell(1, 0, 20);
        Check.due("10: as much", x.falls(1), -5);
        Check.due("8: as much", x.lay(1), 2);
        Lodge y = walls(1);
        y.tell(0, 0, 0);
        Check.due("10: BEARS of 0", y.falls(0), 0);
        Check.unchanged(y, "8: BEARS of 0", -15, l -> l.lay(0));
    }

    /** "NET is more than HOLDS, its PROP, and a fourth of its LOAD, together": as much is not more. */
    private static void netAndWhatHolds() {
        // a push of 10 on each pier, on which 30 lie: 7, and 3 more
        int[][] holding = {{3, 0}, {0, 3}, {2, 1}, {1, 2}};
        for (int[] h : holding) {
            for (int pier = 0; pier < 2; pier++) {
                Lodge x = archOnCentring();
                int p = pier;
                x.prop(1 - p, 3);
                x.tell(p, 1, h[0]);
                x.prop(p, h[1]);
                Check.due("11: as much", x.copy().strike(2), 1);
                if (h[0] > 0) {
                    x.tell(p, 1, h[0] - 1);
                } else {
                    x.prop(p, h[1] - 1);
                }
                Check.unchanged(x, "11: one more", -15, l -> l.strike(2));
            }
        }
    }

    /** "a fourth of its LOAD (the rest away)": 4 with 16 to 19, and 5 with 20. */
    private static void aFourthOfTheLoad() {
        for (int weight = 15; weight <= 20; weight++) {
            Lodge x = new Lodge();
            x.part(1, weight, 0);
            x.part(1, 999, 0);
            x.part(1, 1, 0);
            x.arch(1, 10, 0, 0, 1);
            x.bear(3, 1, 111, -1, -1);
            x.tell(3, 3, 0);
            x.tell(3, 2, 50);
            layBoth(x, 0, 1, 3);
            // 10 / 12 is 0 and 9 by the right: the rest of 1 goes to the left one
            Check.due("11: a push of 5 with a fourth of " + (weight + 1), x.strike(3), weight + 1 >= 20 ? 1 : -15);
        }
    }

    /** "LOAD times THRUST divided by 100 (the rest away)". */
    private static void restOfThePushAway() {
        int[][] cases = {{1, 99, 0}, {1, 100, 1}, {3, 33, 0}, {3, 34, 1}, {199, 1, 1}, {200, 1, 2}, {99, 1, 0},
            {100, 1, 1}, {999, 0, 0}, {999, 100, 999}, {999, 50, 499}};
        for (int[] c : cases) {
            Lodge x = new Lodge();
            x.part(1, 1, 0);
            x.part(1, 1, 0);
            x.arch(1, c[0], 0, 0, 1);
            x.tell(2, 2, c[1]);
            x.tell(2, 3, 0);
            layBoth(x, 0, 1, 2);
            Check.due("20: no push on centring", x.about(0, 6), 0);
            x.prop(0, 1000);
            x.prop(1, 1000);
            x.strike(2);
            String of = " of " + c[0] + " and " + c[1];
            Check.due("20: NET of the left one" + of, x.about(0, 6), c[2]);
            Check.due("20: to the left" + of, x.about(0, 7), 0);
            Check.due("20: NET of the right one" + of, x.about(1, 6), c[2]);
            Check.due("20: to the right" + of, x.about(1, 7), c[2] > 0 ? 1 : 0);
        }
    }

    /** "(the rest away; the rests of all SHARES together go to its first SUPPORT besides)". */
    private static void restsToTheFirstSupport() {
        // weight, then what each of the shares 1, 2, 4 and 5 gets
        int[][] cases = {{1, 1, 0, 0, 0}, {2, 2, 0, 0, 0}, {3, 1, 0, 1, 1}, {5, 2, 0, 1, 2}, {6, 1, 1, 2, 2},
            {11, 3, 1, 3, 4}, {12, 1, 2, 4, 5}, {13, 2, 2, 4, 5}, {23, 4, 3, 7, 9}, {24, 2, 4, 8, 10}};
        for (int[] c : cases) {
            Lodge x = walls(4);
            x.part(1, c[0], 0);
            x.bear(4, 301, 202, 104, 5);
            layBoth(x, 0, 1, 2, 3, 4);
            for (int i = 0; i < 4; i++) {
                Check.due("20: LOAD of the share " + i + " of " + c[0], x.about(3 - i, 3), 20 + c[i + 1]);
            }
            Check.due("20: LOAD of it", x.about(4, 3), c[0]);
        }
    }

    /** "The least PART that would FALL by a course of this one now (100 more, if by NET); -5: none." */
    private static void leastPartThatFalls() {
        Lodge x = archOnCentring();
        x.part(2, 1, 0);
        x.bear(3, 212, -1, -1, -1);
        x.prop(0, 3);
        x.prop(1, 3);
        x.tell(3, 0, 0);
        x.strike(2);
        // the course makes the push 10 (21 / 2, the rest away), on the piers 31 and 30: a fourth is 7
        Check.due("10: itself", x.falls(3), 3);
        x.tell(2, 0, 20);
        Check.due("10: the arch is less", x.falls(3), 2);
        x.tell(0, 0, 30);
        Check.due("10: the first pier is less", x.falls(3), 0);
        x.tell(3, 0, 1);
        x.tell(2, 0, 21);
        x.tell(0, 0, 31);
        Check.due("10: none", x.falls(3), -5);
        Check.due("8: lay(3)", x.lay(3), 1);
        x.tell(2, 0, 1000000);
        x.tell(0, 0, 1000000);
        x.tell(3, 0, 1000000);
        // 22 on the arch, a push of 11, 31 on each pier: 7 and 3 are too little
        Check.due("10: the least one by NET", x.falls(3), 100);
        x.prop(0, 4);
        Check.due("10: the next one by NET", x.falls(3), 101);
        x.tell(0, 0, 31);
        Check.due("10: it bears as much", x.falls(3), 101);
        x.prop(1, 4);
        Check.due("10: none by NET", x.falls(3), -5);
        x.prop(0, 3);
        x.tell(0, 0, 31);
        Check.due("10: by NET, as its load is as much", x.falls(3), 100);
    }

    /** "(Of an ARCH on CENTRING neither is asked.)", and of a PART that is not BEGUN neither. */
    private static void neitherOnCentring() {
        Lodge x = walls(2);
        x.arch(2, 10, 0, 0, 1);
        x.tell(2, 0, 0);
        x.tell(2, 3, 0);
        layBoth(x, 0, 1);
        Check.due("10: the first course", x.falls(2), -5);
        layBoth(x, 2);
        Check.due("10: a course more on centring", x.falls(2), -5);
        Check.due("20: nothing comes from it", x.about(0, 3), 20);
        Check.due("20: its own load", x.about(2, 3), 20);
        x.prop(0, 9);
        x.prop(1, 9);
        Check.unchanged(x, "11: it is asked when struck", -15, l -> l.strike(2));
        x.tell(2, 0, 20);
        Check.due("11: strike(2)", x.strike(2), 1);
        Check.due("10: a course more when struck", x.falls(2), 2);
        Lodge y = walls(2);
        y.bear(1, 12, -1, -1, -1);
        y.tell(0, 0, 0);
        Check.due("10: what isn't begun doesn't fall", y.falls(1), -5);
    }

    /** "LAID is one more, AGE 0, WORK DONE one more"; a refused course changes none of them. */
    private static void ageAndWorkOfACourse() {
        Lodge x = walls(2);
        x.lay(0);
        x.month(4);
        Check.due("20: AGE", x.about(0, 4), 4);
        Check.statute(x, 4, "0");
        Check.unchanged(x, "8: refused", -13, l -> l.lay(0));
        Check.due("20: AGE goes on", x.about(0, 4), 4);
        Check.statute(x, 4, "9");
        Check.due("8: lay(0)", x.lay(0), 2);
        Check.due("20: AGE", x.about(0, 4), 0);
        Check.due("20: AGE of what isn't begun", x.about(1, 4), 0);
        Check.due("27: WORK DONE", x.count(4), 1);
        Check.due("27: LAID", x.count(5), 2);
        x.month(1);
        Check.due("27: WORK DONE begins at 0", x.count(4), 0);
    }

    /** "it has none: 1; it is not WHOLE: 2; AGE is less than HARD: 3; some PART would FALL: 5", in this order. */
    private static void strikeInOrder() {
        Lodge x = walls(2);
        x.arch(2, 10, 0, 0, 1);
        x.tell(2, 0, 0);
        layBoth(x, 0, 1);
        Check.unchanged(x, "11: a wall that is whole has none", -11, l -> l.strike(0));
        Check.unchanged(x, "11: 1 ahead of 2, 3, 5: not begun", -11, l -> l.strike(2));
        x.lay(2);
        Check.unchanged(x, "11: 2 ahead of 3, 5", -12, l -> l.strike(2));
        x.month(3);
        Check.unchanged(x, "11: 2 ahead of 5", -12, l -> l.strike(2));
        x.lay(2);
        Check.unchanged(x, "11: 3 ahead of 5", -13, l -> l.strike(2));
        x.month(2);
        Check.unchanged(x, "11: one month short", -13, l -> l.strike(2));
        x.month(1);
        Check.unchanged(x, "11: 5 alone, by its load", -15, l -> l.strike(2));
        x.tell(2, 0, 20);
        Check.unchanged(x, "11: 5 alone, by NET", -15, l -> l.strike(2));
        x.prop(0, 3);
        Check.unchanged(x, "11: 5 alone, by NET of the right one", -15, l -> l.strike(2));
        x.prop(1, 3);
        Check.due("11: strike(2)", x.strike(2), 1);
        Check.unchanged(x, "11: struck", -11, l -> l.strike(2));
        x.frost(4095);
        x.tell(2, 3, 24);
        Check.unchanged(x, "11: struck, 1 ahead of 3", -11, l -> l.strike(2));
    }

    /** "HARD (0 .. 24 months)": AGE of as much will do; frost makes none of it. */
    private static void hardFromNoneToTwoYears() {
        int[] hard = {0, 1, 24};
        for (int h : hard) {
            Lodge x = archOnCentring();
            x.tell(2, 3, h);
            x.prop(0, 9);
            x.prop(1, 9);
            if (h > 1) {
                x.month(h - 1);
            }
            if (h > 0) {
                Check.unchanged(x, "11: AGE is less than " + h, -13, l -> l.strike(2));
                x.bitter(h - 1);
                x.month(1);
                Check.unchanged(x, "11: the frost made no AGE", -13, l -> l.strike(2));
                x.month(1);
            }
            Check.due("20: AGE", x.about(2, 4), h);
            Check.due("11: AGE is as much as " + h, x.strike(2), 1);
        }
    }

    /** "TO take a PROP away, or make it less: some PART would FALL: 5." */
    private static void propsLess() {
        Lodge x = archOnCentring();
        x.prop(0, 100000);
        x.prop(1, 3);
        x.strike(2);
        Check.due("12: less", x.prop(0, 4), 100000);
        Check.due("12: just enough", x.prop(0, 3), 4);
        Check.unchanged(x, "12: one less", -15, l -> l.prop(0, 2));
        Check.unchanged(x, "12: away", -15, l -> l.prop(0, 0));
        Check.unchanged(x, "12: away from the right one", -15, l -> l.prop(1, 0));
        Check.unchanged(x, "12: BAD ahead of REFUSED", -1, l -> l.prop(0, -1));
        Check.due("12: the same again", x.prop(0, 3), 3);
        Check.due("12: more", x.prop(0, 100000), 3);
        x.tell(1, 1, 3);
        Check.due("12: away, as HOLDS will do", x.prop(1, 0), 3);
    }

    /** "A PROP at a PART (0 .. 100000)", at any, begun or not. */
    private static void propsOfParts() {
        Lodge x = walls(2);
        x.arch(2, 10, 0, 0, 1);
        x.lay(0);
        for (int p = 0; p < 3; p++) {
            int one = p;
            int[] bad = {-1, 100001, LOW, HIGH};
            for (int v : bad) {
                Check.unchanged(x, "12: prop(" + p + ", " + v + ")", -1, l -> l.prop(one, v));
            }
            Check.due("12: the most", x.prop(p, 100000), 0);
            Check.due("20: PROP", x.about(p, 8), 100000);
            Check.due("12: the least", x.prop(p, 0), 100000);
            Check.due("12: and again", x.prop(p, 0), 0);
        }
    }

    /** "n (1 .. 100) MONTHS GO BY". */
    private static void monthsAtOnce() {
        Lodge x = walls(1);
        x.lay(0);
        int[] bad = {0, -1, 101, LOW, HIGH};
        for (int n : bad) {
            Check.unchanged(x, "13: month(" + n + ")", -1, l -> l.month(n));
        }
        Check.due("13: month(1)", x.month(1), 1);
        Check.due("13: month(100)", x.month(100), 101);
        Check.due("20: AGE", x.about(0, 4), 101);
    }

    /** "at most 1200"; "BAD (also if beyond 1200)": none of the months goes by then. */
    private static void lastMonth() {
        Lodge x = walls(1);
        x.lay(0);
        for (int i = 0; i < 11; i++) {
            x.month(100);
        }
        Check.due("13: 1100 and 100", x.copy().month(100), 1200);
        x.month(1);
        Check.unchanged(x, "13: 1101 and 100", -1, l -> l.month(100));
        Check.due("13: 1101 and 99", x.copy().month(99), 1200);
        x.month(98);
        Check.unchanged(x, "13: 1199 and 2", -1, l -> l.month(2));
        Check.due("13: 1199 and 1", x.month(1), 1200);
        Check.unchanged(x, "13: 1200 and 1", -1, l -> l.month(1));
        Check.due("24: as(0, 1200)", x.as(0, 1200), 1);
        Check.due("24: as(0, 1201)", x.as(0, 1201), -1);
        Check.due("20: AGE", x.about(0, 4), 1200);
        Check.due("15: the last month", x.bitter(1200), 1);
        Check.due("15: the last but one", x.bitter(1199), -1);
        Check.due("18: the last month", Check.statute(x, 1200, "f"), 1);
        Check.due("23: work()", x.work(), 1);
    }

    /** "if the one that went had no frost": not the one that comes. */
    private static void theMonthThatWent() {
        Lodge x = walls(2);
        x.lay(0);
        x.frost(1 << 1);
        x.month(1);
        Check.due("13: month 0 went", x.about(0, 4), 1);
        x.month(1);
        Check.due("13: month 1 went", x.about(0, 4), 1);
        x.frost(1 << 2);
        x.lay(1);
        x.month(1);
        Check.due("13: month 2 went", x.about(0, 4), 1);
        Check.due("13: month 2 went", x.about(1, 4), 0);
        x.frost(0);
        Check.due("13: what went stays", x.about(0, 4), 1);
        x.bitter(4);
        x.month(3);
        Check.due("13: of three months two", x.about(0, 4), 3);
        Check.due("13: of three months two", x.about(1, 4), 2);
    }

    /** "twelve bits, the month 0 the lowest". */
    private static void twelveBits() {
        Lodge x = walls(1);
        int[] bad = {-1, 4096, LOW, HIGH};
        for (int f : bad) {
            Check.unchanged(x, "14: frost(" + f + ")", -1, l -> l.frost(f));
        }
        Check.due("14: all twelve", x.frost(4095), 0);
        Check.unchanged(x, "14: one more is BAD", -1, l -> l.frost(4096));
        Check.due("14: what it was", x.frost(2048), 4095);
        Check.due("14: what it was", x.frost(1), 2048);
        Check.due("14: what it was", x.frost(0), 1);
        x.lay(0);
        for (int m = 0; m < 26; m++) {
            Lodge one = x.copy();
            one.frost(1 << m % 12);
            Check.due("14: frost of the month " + m, age(one.copy()), 0);
            one.frost(4095 - (1 << m % 12));
            Check.due("14: frost of all months but " + m, age(one), m + 1);
            x.month(1);
        }
    }

    /** AGE of part 0 behind this month, 0 if it was not more by it. */
    private static int age(Lodge x) {
        int before = x.about(0, 4);
        x.month(1);
        int behind = x.about(0, 4);
        return behind == before ? 0 : behind;
    }

    /** "A month of the count (MONTH now .. 1200) is BITTER: 1; 0: it was." */
    private static void monthsToComeAreBitter() {
        Lodge x = walls(1);
        int[] bad = {-1, 1201, LOW, HIGH};
        for (int m : bad) {
            Check.unchanged(x, "15: bitter(" + m + ")", -1, l -> l.bitter(m));
        }
        Check.due("15: now", x.bitter(0), 1);
        Check.unchanged(x, "15: it was", 0, l -> l.bitter(0));
        Check.due("15: the last", x.bitter(1200), 1);
        Check.unchanged(x, "15: it was", 0, l -> l.bitter(1200));
        x.frost(4095);
        Check.due("15: a month with frost of all years wasn't bitter", x.bitter(30), 1);
        Check.unchanged(x, "15: it was", 0, l -> l.bitter(30));
        x.frost(0);
        x.lay(0);
        x.month(5);
        Check.due("20: AGE", x.about(0, 4), 4);
        Check.unchanged(x, "15: just gone", -1, l -> l.bitter(4));
        Check.unchanged(x, "15: gone, and it was", -1, l -> l.bitter(0));
        Check.due("15: now", x.bitter(5), 1);
        Check.due("15: the same month of the next year wasn't", x.bitter(17), 1);
        x.month(12);
        Check.due("20: AGE", x.about(0, 4), 15);
        x.month(2);
        Check.due("20: AGE", x.about(0, 4), 16);
    }
}
