import java.util.function.ToIntFunction;

/** The edges that the document names for the plan: promises 1 to 7, and what the terms say of PARTS and EDITIONS. */
public final class EdgesOfPlanTest {
    private static final int LOW = Integer.MIN_VALUE, HIGH = Integer.MAX_VALUE;
    private static final int NO_END = -2000000000;

    public static void main(String[] args) {
        noParts();
        noGiftsNoStatuteMonthZero();
        firstNumbers();
        fortyParts();
        fortiethIsAnArch();
        everyCallNamesParts();
        measures();
        leftAndRight();
        noneToFourSupports();
        lesserNumbers();
        shares();
        twelveTogether();
        behindAllThatThereAre();
        twoAreOne();
        fewerThanTwo();
        begunParts();
        badNotFull();
        sixtyEditions();
        sixtiethByBear();
        coursesOfEdit();
        numbersOfEditions();
        partsThatCameLater();
        leastAndMostTold();
        whatIsTold();
        tellRefused();
        Check.finish();
    }

    private static Lodge walls(int n) {
        Lodge x = new Lodge();
        for (int i = 0; i < n; i++) {
            x.part(2, 10, 0);
        }
        return x;
    }

    /** "No parts": the number 0 is none. */
    private static void noParts() {
        Lodge x = new Lodge();
        Check.due("1: count(0)", x.count(0), 0);
        namesPart(x, 0, false);
        namesPart(x, -1, false);
        Check.due("3: an arch on none", x.arch(1, 1, 0, 0, 1), -1);
        Check.due("2: the first part is 0", x.part(1, 1, 0), 0);
    }

    /** "MONTH 0, no gifts, no statute." */
    private static void noGiftsNoStatuteMonthZero() {
        Lodge x = walls(1);
        for (int what = 1; what <= 9; what++) {
            Check.due("1: count(" + what + ")", x.count(what), 0);
        }
        Check.due("1: work() without a statute", x.work(), 10);
        Check.due("1: no gift 0", x.left(0, 0), -1);
        Check.due("1: no gift 0", x.end(0, 0), NO_END);
        Check.due("1: no edition 1", x.wanted(1, 0), -1);
        Check.due("1: month 0", x.as(0, 0), 0);
        Check.due("1: no month 1 yet", x.as(0, 1), -1);
        Check.due("1: month 0 isn't bitter", x.bitter(0), 1);
        Check.due("1: no frost", x.frost(0), 0);
        Check.due("1: an empty tape", x.statute(0), -100);
    }

    /** "1000000 at first", "0 at first", "50 at first", "3 at first"; on the ground, nothing laid. */
    private static void firstNumbers() {
        Lodge x = walls(2);
        x.arch(2, 10, 0, 0, 1);
        int[] first = {1000000, 0, 50, 3};
        for (int p = 0; p <= 2; p++) {
            for (int what = 0; what < 4; what++) {
                Check.due("7: what is told at first", x.tell(p, what, first[what]), first[what]);
            }
            for (int what = 2; what <= 8; what++) {
                Check.due("20: about(" + p + ", " + what + ") at first", x.about(p, what), 0);
            }
            Check.due("20: supports at first", x.about(p, 9), p == 2 ? 2 : 0);
        }
    }

    /** "PARTS 0 .. 39": the 40th is taken, the 41st is FULL, a wall and an arch. */
    private static void fortyParts() {
        Lodge x = walls(39);
        Check.due("2: the 40th", x.part(30, 999, 999), 39);
        Check.unchanged(x, "2: the 41st", -3, l -> l.part(1, 1, 0));
        Check.unchanged(x, "3: the 41st", -3, l -> l.arch(1, 1, 0, 38, 39));
        Check.unchanged(x, "2: BAD ahead of FULL", -1, l -> l.part(31, 1, 0));
        Check.unchanged(x, "3: BAD ahead of FULL", -1, l -> l.arch(1, 1000, 0, 38, 39));
        Check.unchanged(x, "3: left is right ahead of FULL", -1, l -> l.arch(1, 1, 0, 39, 39));
        Check.unchanged(x, "3: no such part ahead of FULL", -1, l -> l.arch(1, 1, 0, 39, 40));
    }

    private static void fortiethIsAnArch() {
        Lodge x = walls(39);
        Check.due("3: the 40th", x.arch(30, 999, 999, 38, 0), 39);
        Check.due("3: its left", x.support(39, 0), 3806);
        Check.due("3: its right", x.support(39, 1), 6);
        Check.unchanged(x, "3: the 41st", -3, l -> l.arch(1, 1, 0, 38, 39));
        Check.unchanged(x, "2: the 41st", -3, l -> l.part(1, 1, 0));
    }

    /** "BAD: no such part": the last number that there is, and the first that there is not, for every call. */
    private static void everyCallNamesParts() {
        int[] sizes = {1, 2, 40};
        for (int n : sizes) {
            Lodge x = walls(n);
            x.gift(1);
            namesPart(x, 0, true);
            namesPart(x, n - 1, true);
            String before = x.state();
            int[] none = {n, n + 1, -1, -2, LOW, HIGH};
            for (int p : none) {
                namesPart(x, p, false);
            }
            Check.dueSame("BAD, no such part,", x, before);
        }
    }

    private static void namesPart(Lodge l, int p, boolean there) {
        named("4: bear", p, there, -1, x -> x.bear(p, -1, -1, -1, -1), l);
        named("5: edit", p, there, -1, x -> x.edit(p, 3), l);
        named("6: wanted", p, there, -1, x -> x.wanted(0, p), l);
        named("7: tell", p, there, -1, x -> x.tell(p, 3, 3), l);
        named("8: lay", p, there, -1, x -> x.lay(p), l);
        named("9: may", p, there, -1, x -> x.may(p), l);
        named("10: falls", p, there, -1, x -> x.falls(p), l);
        named("11: strike", p, there, -1, x -> x.strike(p), l);
        named("12: prop", p, there, -1, x -> x.prop(p, 0), l);
        named("19: end", p, there, NO_END, x -> x.end(0, p), l);
        named("20: about", p, there, -1, x -> x.about(p, 0), l);
        named("24: as", p, there, -1, x -> x.as(p, 0), l);
        named("25: down", p, there, -1, x -> x.down(p), l);
        named("26: needs", p, there, -1, x -> x.needs(p), l);
        if (!there) {
            Check.due("21: support(" + p + ", 0)", l.support(p, 0), -1);
            Check.due("3: left " + p, l.arch(1, 1, 0, p, 0), -1);
            Check.due("3: right " + p, l.arch(1, 1, 0, 0, p), -1);
        }
    }

    /** One that is there is asked of a copy, as some of the calls change it. */
    private static void named(String call, int p, boolean there, int bad, ToIntFunction<Lodge> made, Lodge x) {
        int got = made.applyAsInt(there ? x.copy() : x);
        Check.dueTrue(call + " of part " + p + (there ? " isn't BAD" : " is BAD"), (got != bad) == there);
    }

    /** "COURSES wanted (1 .. 30), a WEIGHT (1 .. 999), a PRICE (0 .. 999)", of a wall and of an arch. */
    private static void measures() {
        int[][] taken = {{1, 500, 500}, {30, 500, 500}, {15, 1, 500}, {15, 999, 500}, {15, 500, 0}, {15, 500, 999}};
        int[][] bad = {{0, 500, 500}, {31, 500, 500}, {15, 0, 500}, {15, 1000, 500}, {15, 500, -1}, {15, 500, 1000},
            {LOW, 500, 500}, {HIGH, 500, 500}, {15, LOW, 500}, {15, HIGH, 500}, {15, 500, LOW}, {15, 500, HIGH},
            {-1, 500, 500}, {15, -1, 500}};
        Lodge x = walls(2);
        for (int[] m : taken) {
            measured(x, x.part(m[0], m[1], m[2]), 0, m);
            measured(x, x.arch(m[0], m[1], m[2], 0, 1), 1, m);
        }
        String before = x.state();
        for (int[] m : bad) {
            Check.due("2: part(" + m[0] + ", " + m[1] + ", " + m[2] + ")", x.part(m[0], m[1], m[2]), -1);
            Check.due("3: arch(" + m[0] + ", " + m[1] + ", " + m[2] + ", ..)", x.arch(m[0], m[1], m[2], 0, 1), -1);
        }
        Check.dueSame("2, 3: BAD", x, before);
    }

    private static void measured(Lodge x, int part, int kind, int[] m) {
        Check.due("2, 3: its number", part, x.count(0) - 1);
        Check.due("2, 3: KIND", x.about(part, 0), kind);
        Check.due("2, 3: COURSES", x.about(part, 1), m[0]);
        Check.due("2, 3: WEIGHT", x.about(part, 11), m[1]);
        Check.due("2, 3: PRICE", x.about(part, 12), m[2]);
        Check.due("2, 3: SUPPORTS", x.about(part, 9), 2 * kind);
    }

    /** "BAD (also left is right)"; "PARTS of lesser numbers": its own number is none yet. */
    private static void leftAndRight() {
        Lodge x = walls(3);
        Check.unchanged(x, "3: left is right", -1, l -> l.arch(1, 1, 0, 0, 0));
        Check.unchanged(x, "3: left is right, the last", -1, l -> l.arch(1, 1, 0, 2, 2));
        Check.unchanged(x, "3: its own number left", -1, l -> l.arch(1, 1, 0, 3, 0));
        Check.unchanged(x, "3: its own number right", -1, l -> l.arch(1, 1, 0, 0, 3));
        Check.unchanged(x, "3: left and right are no part", -1, l -> l.arch(1, 1, 0, -1, -1));
        Check.due("3: the last to the left", x.arch(1, 1, 0, 2, 0), 3);
        Check.due("3: an arch to the right", x.arch(1, 1, 0, 0, 3), 4);
        Check.due("3: 6 twelfths", x.support(4, 1), 306);
        Check.due("3: no edition", x.count(3), 0);
    }

    /** "none (it stands on the ground), or one to four PARTS". */
    private static void noneToFourSupports() {
        int[][] told = {{-1, -1, -1, -1}, {12, -1, -1, -1}, {6, 106, -1, -1}, {4, 104, 204, -1}, {3, 103, 203, 303}};
        Lodge x = walls(5);
        for (int n = 0; n <= 4; n++) {
            int[] t = told[n];
            Check.due("4: " + n + " supports", x.bear(4, t[0], t[1], t[2], t[3]), n);
            Check.due("20: " + n + " supports", x.about(4, 9), n);
            for (int i = 0; i < 4; i++) {
                Check.due("21: support(4, " + i + ") of " + n, x.support(4, i), i < n ? t[i] : -1);
                Check.due("20: parts on " + i, x.about(i, 10), i < n ? 1 : 0);
            }
            Check.due("21: support(4, 4)", x.support(4, 4), -1);
            Check.due("4: an edition each time", x.count(3), n + 1);
        }
        Check.due("4: none again", x.bear(4, -1, -1, -1, -1), 0);
        Check.due("21: none", x.support(4, 0), -1);
    }

    /** "PARTS of lesser numbers": the one just ahead is taken, itself and the next one are not. */
    private static void lesserNumbers() {
        Lodge x = walls(40);
        Check.unchanged(x, "4: part 0 has none below", -1, l -> l.bear(0, 12, -1, -1, -1));
        Check.due("4: but none", x.bear(0, -1, -1, -1, -1), 0);
        for (int p = 1; p < 40; p += 19) {
            int one = p;
            Check.unchanged(x, "4: itself", -1, l -> l.bear(one, 100 * one + 12, -1, -1, -1));
            Check.unchanged(x, "4: the next", -1, l -> l.bear(one, 100 * one + 112, -1, -1, -1));
            Check.unchanged(x, "4: itself, as the last", -1, l -> l.bear(one, 6, 100 * one + 6, -1, -1));
            Check.due("4: the one just ahead", x.bear(p, 100 * p - 88, -1, -1, -1), 1);
        }
        Check.unchanged(x, "4: below all", -1, l -> l.bear(39, LOW, -1, -1, -1));
        Check.unchanged(x, "4: beyond all", -1, l -> l.bear(39, HIGH, -1, -1, -1));
        Check.unchanged(x, "4: a part below 0", -1, l -> l.bear(39, -88, -1, -1, -1));
        Check.unchanged(x, "4: a part that would wrap", -1, l -> l.bear(39, LOW + 100, -1, -1, -1));
    }

    /** "each with a SHARE (1 .. 12 twelfths)". */
    private static void shares() {
        Lodge x = walls(3);
        Check.due("4: 12", x.bear(2, 112, -1, -1, -1), 1);
        Check.due("4: 1 and 11", x.bear(2, 101, 11, -1, -1), 2);
        Check.unchanged(x, "4: 0 and 12", -1, l -> l.bear(2, 100, 12, -1, -1));
        Check.unchanged(x, "4: 12 and 0", -1, l -> l.bear(2, 12, 100, -1, -1));
        Check.unchanged(x, "4: 0", -1, l -> l.bear(2, 0, -1, -1, -1));
        Check.unchanged(x, "4: 13", -1, l -> l.bear(2, 113, -1, -1, -1));
        Check.unchanged(x, "4: 99 of part 0", -1, l -> l.bear(2, 99, -1, -1, -1));
        Check.unchanged(x, "4: 13 and less than none", -1, l -> l.bear(2, 113, -101, -1, -1));
    }

    /** "12 together". */
    private static void twelveTogether() {
        Lodge x = walls(5);
        Check.unchanged(x, "4: 11 of one", -1, l -> l.bear(4, 11, -1, -1, -1));
        Check.unchanged(x, "4: 5 and 6", -1, l -> l.bear(4, 5, 106, -1, -1));
        Check.unchanged(x, "4: 7 and 6", -1, l -> l.bear(4, 7, 106, -1, -1));
        Check.unchanged(x, "4: 12 and 12", -1, l -> l.bear(4, 12, 112, -1, -1));
        Check.unchanged(x, "4: 12 and 1", -1, l -> l.bear(4, 12, 101, -1, -1));
        Check.unchanged(x, "4: 11 of four", -1, l -> l.bear(4, 2, 103, 203, 303));
        Check.unchanged(x, "4: 13 of four", -1, l -> l.bear(4, 3, 103, 203, 304));
        Check.due("4: 12 of four", x.bear(4, 9, 101, 201, 301), 4);
        Check.due("4: 12 of four, the last most", x.bear(4, 1, 101, 201, 309), 4);
    }

    /** "-1 for those that there are not (behind all that there are)". */
    private static void behindAllThatThereAre() {
        Lodge x = walls(5);
        int[][] bad = {{-1, 12, -1, -1}, {-1, -1, 12, -1}, {-1, -1, -1, 12}, {6, -1, 106, -1}, {6, -1, -1, 106},
            {4, 104, -1, 204}, {-1, 6, 106, -1}, {12, -2, -1, -1}, {12, -1, -1, -2}, {-2, -1, -1, -1},
            {12, -1, -1, 0}};
        for (int[] b : bad) {
            Check.unchanged(x, "4: bear(4, " + b[0] + ", " + b[1] + ", " + b[2] + ", " + b[3] + ")", -1,
                l -> l.bear(4, b[0], b[1], b[2], b[3]));
        }
    }

    /** "two are one", wherever the two stand. */
    private static void twoAreOne() {
        Lodge x = walls(5);
        for (int i = 0; i < 4; i++) {
            for (int k = i + 1; k < 4; k++) {
                int[] t = {3, 103, 203, 303};
                t[k] = t[i];
                Check.unchanged(x, "4: the supports " + i + " and " + k + " are one", -1,
                    l -> l.bear(4, t[0], t[1], t[2], t[3]));
            }
        }
        Check.unchanged(x, "4: one with two shares", -1, l -> l.bear(4, 301, 311, -1, -1));
    }

    /** "An ARCH has two at least"; "of a PART of KIND 0 there may be none". */
    private static void fewerThanTwo() {
        Lodge x = walls(4);
        x.arch(1, 1, 0, 0, 1);
        Check.unchanged(x, "4: an arch on none", -1, l -> l.bear(4, -1, -1, -1, -1));
        Check.unchanged(x, "4: an arch on one", -1, l -> l.bear(4, 12, -1, -1, -1));
        Check.due("4: an arch on two", x.bear(4, 201, 111, -1, -1), 2);
        Check.due("4: an arch on three", x.bear(4, 201, 101, 310, -1), 3);
        Check.due("4: an arch on four", x.bear(4, 201, 101, 301, 9), 4);
        Check.unchanged(x, "4: an arch on one, again", -1, l -> l.bear(4, 12, -1, -1, -1));
        Check.due("4: a wall on one", x.bear(3, 12, -1, -1, -1), 1);
        Check.due("4: a wall on none", x.bear(3, -1, -1, -1, -1), 0);
    }

    /** "NOT: the PART is BEGUN": just ahead of its first course it may be changed, and not behind it. */
    private static void begunParts() {
        Lodge x = walls(3);
        x.arch(2, 10, 0, 0, 1);
        Check.due("5: not begun", x.edit(0, 1), 1);
        Check.due("4: not begun", x.bear(2, 106, 6, -1, -1), 2);
        Check.due("8: the first course", x.lay(0), 1);
        Check.unchanged(x, "5: WHOLE", -2, l -> l.edit(0, 1));
        Check.unchanged(x, "4: WHOLE", -2, l -> l.bear(0, -1, -1, -1, -1));
        x.lay(1);
        Check.unchanged(x, "5: BEGUN", -2, l -> l.edit(1, 30));
        Check.unchanged(x, "5: BEGUN, as it was", -2, l -> l.edit(1, 2));
        Check.unchanged(x, "4: BEGUN", -2, l -> l.bear(1, 12, -1, -1, -1));
        Check.due("4: what lies below is begun, not it", x.bear(2, 12, -1, -1, -1), 1);
        Check.due("5: what lies below is begun, not it", x.edit(3, 1), 4);
        x.lay(1);
        Check.due("5: an arch just ahead of its first course", x.edit(3, 2), 5);
        x.lay(3);
        Check.unchanged(x, "5: an arch on centring", -2, l -> l.edit(3, 1));
        Check.unchanged(x, "4: an arch on centring", -2, l -> l.bear(3, 106, 6, -1, -1));
    }

    /** "of several the one named first": BAD, then NOT, then FULL. */
    private static void badNotFull() {
        Lodge x = walls(3);
        x.arch(1, 10, 0, 0, 1);
        for (int i = 0; i < 60; i++) {
            x.edit(2, 2);
        }
        x.lay(0);
        x.lay(0);
        Check.unchanged(x, "5: BAD ahead of NOT and FULL", -1, l -> l.edit(0, 0));
        Check.unchanged(x, "5: BAD ahead of NOT and FULL", -1, l -> l.edit(0, 31));
        Check.unchanged(x, "5: NOT ahead of FULL", -2, l -> l.edit(0, 30));
        Check.unchanged(x, "5: BAD ahead of FULL", -1, l -> l.edit(2, 31));
        Check.unchanged(x, "5: no such part ahead of FULL", -1, l -> l.edit(4, 1));
        Check.unchanged(x, "5: FULL", -3, l -> l.edit(2, 30));
        Check.unchanged(x, "4: BAD ahead of NOT and FULL", -1, l -> l.bear(0, 12, -1, -1, -1));
        Check.unchanged(x, "4: NOT ahead of FULL", -2, l -> l.bear(0, -1, -1, -1, -1));
        Check.unchanged(x, "4: BAD ahead of FULL", -1, l -> l.bear(2, 11, -1, -1, -1));
        Check.unchanged(x, "4: fewer than two ahead of FULL", -1, l -> l.bear(3, 12, -1, -1, -1));
        Check.unchanged(x, "4: no such part ahead of FULL", -1, l -> l.bear(4, -1, -1, -1, -1));
        Check.unchanged(x, "4: FULL", -3, l -> l.bear(2, 112, -1, -1, -1));
    }

    /** "FULL: there were 60": the 60th comes by edit; parts may come yet. */
    private static void sixtyEditions() {
        Lodge x = walls(2);
        for (int i = 1; i <= 59; i++) {
            Check.due("4, 5: edition " + i, i % 2 == 0 ? x.edit(1, 1 + i % 30) : x.bear(1, 12, -1, -1, -1),
                i % 2 == 0 ? i : 1);
        }
        Check.due("27: 59 editions", x.count(3), 59);
        Check.due("5: the 60th", x.edit(1, 30), 60);
        Check.unchanged(x, "5: the 61st", -3, l -> l.edit(1, 29));
        Check.unchanged(x, "4: the 61st", -3, l -> l.bear(1, -1, -1, -1, -1));
        Check.due("6: wanted(60, 1)", x.wanted(60, 1), 30);
        Check.due("6: wanted(59, 1)", x.wanted(59, 1), 29);
        Check.due("6: wanted(61, 1)", x.wanted(61, 1), -1);
        Check.due("2: a part when the editions are full", x.part(5, 1, 0), 2);
        Check.due("3: an arch when the editions are full", x.arch(5, 1, 0, 0, 1), 3);
        Check.due("6: it came later", x.wanted(60, 2), -1);
        Check.due("6: in edition 0", x.wanted(0, 2), 5);
    }

    private static void sixtiethByBear() {
        Lodge x = walls(2);
        for (int i = 1; i <= 59; i++) {
            x.edit(0, 7);
        }
        Check.due("4: the 60th", x.bear(1, 12, -1, -1, -1), 1);
        Check.due("27: 60 editions", x.count(3), 60);
        Check.unchanged(x, "4: the 61st", -3, l -> l.bear(1, 12, -1, -1, -1));
        Check.unchanged(x, "5: the 61st", -3, l -> l.edit(0, 7));
    }

    /** "COURSES wanted (1 .. 30)", told by edit: the last taken and the first not. */
    private static void coursesOfEdit() {
        Lodge x = walls(1);
        int[] bad = {0, 31, -1, LOW, HIGH};
        for (int n : bad) {
            Check.unchanged(x, "5: edit(0, " + n + ")", -1, l -> l.edit(0, n));
        }
        Check.due("5: edit(0, 1)", x.edit(0, 1), 1);
        Check.due("8: one course", x.copy().lay(0), 1);
        Check.due("5: edit(0, 30)", x.edit(0, 30), 2);
        Check.due("26: needs(0)", x.needs(0), 30);
        for (int i = 1; i <= 30; i++) {
            if (i % 10 == 1) {
                x.month(1);
            }
            Check.due("8: course " + i, x.lay(0), i);
        }
        x.month(1);
        Check.due("8: WHOLE with 30", x.lay(0), -11);
        Check.due("10: a course beyond the 30th", x.falls(0), -5);
        Check.due("24: all 30", x.as(0, 4), 30);
        Check.due("24: 20 at the end of month 2", x.as(0, 2), 20);
    }

    /** "They are numbered from 1 on"; "BAD: none such". */
    private static void numbersOfEditions() {
        Lodge x = walls(1);
        Check.due("6: wanted(0, 0)", x.wanted(0, 0), 2);
        Check.due("6: wanted(1, 0) of none", x.wanted(1, 0), -1);
        Check.due("5: the first is 1", x.edit(0, 9), 1);
        Check.due("6: wanted(0, 0)", x.wanted(0, 0), 2);
        Check.due("6: wanted(1, 0)", x.wanted(1, 0), 9);
        Check.due("6: wanted(2, 0)", x.wanted(2, 0), -1);
        Check.due("6: wanted(-1, 0)", x.wanted(-1, 0), -1);
        Check.due("6: wanted(LOW, 0)", x.wanted(LOW, 0), -1);
        Check.due("6: wanted(HIGH, 0)", x.wanted(HIGH, 0), -1);
        Check.due("5: the second is 2", x.edit(0, 4), 2);
        Check.due("6: wanted(2, 0)", x.wanted(2, 0), 4);
        Check.due("6: wanted(1, 0)", x.wanted(1, 0), 9);
    }

    /** "the PART came later (EDITION 0 aside)": the last part that there was, and the first one behind it. */
    private static void partsThatCameLater() {
        Lodge x = walls(2);
        x.edit(0, 5);
        x.part(7, 1, 0);
        Check.due("6: there was part 1", x.wanted(1, 1), 2);
        Check.due("6: there was no part 2", x.wanted(1, 2), -1);
        Check.due("6: edition 0 tells of it", x.wanted(0, 2), 7);
        x.edit(2, 8);
        Check.due("6: edition 2 tells of it", x.wanted(2, 2), 8);
        Check.due("6: edition 1 doesn't yet", x.wanted(1, 2), -1);
        Check.due("6: edition 0 tells how it was made", x.wanted(0, 2), 7);
        Check.due("6: edition 2 of part 0", x.wanted(2, 0), 5);
        x.arch(3, 1, 0, 0, 1);
        Check.due("6: an arch, too", x.wanted(2, 3), -1);
        Check.due("6: an arch in edition 0", x.wanted(0, 3), 3);
        Check.due("6: none such, edition 0", x.wanted(0, 4), -1);
        Check.due("6: none such, edition 2", x.wanted(2, 4), -1);
    }

    /** "BEARS (0 .. 1000000), HOLDS (0 .. 100000), THRUST (0 .. 100), HARD (0 .. 24)". */
    private static void leastAndMostTold() {
        int[] most = {1000000, 100000, 100, 24};
        Lodge x = walls(2);
        x.arch(1, 1, 0, 0, 1);
        for (int what = 0; what < 4; what++) {
            int w = what;
            int[] bad = {-1, most[what] + 1, LOW, HIGH};
            for (int v : bad) {
                Check.unchanged(x, "7: tell(2, " + what + ", " + v + ")", -1, l -> l.tell(2, w, v));
            }
            x.tell(2, what, 0);
            Check.due("7: the least is kept", x.tell(2, what, most[what]), 0);
            Check.due("7: the most is kept", x.tell(2, what, most[what] - 1), most[what]);
            Check.due("7: one less is kept", x.tell(2, what, 1), most[what] - 1);
        }
    }

    /** "0 BEARS, 1 HOLDS, 2 THRUST, 3 HARD": no others, and each its own. */
    private static void whatIsTold() {
        Lodge x = walls(2);
        int[] bad = {-1, 4, LOW, HIGH};
        for (int what : bad) {
            Check.unchanged(x, "7: tell(0, " + what + ", 0)", -1, l -> l.tell(0, what, 0));
        }
        for (int what = 0; what < 4; what++) {
            x.tell(1, what, 11 + what);
        }
        for (int what = 0; what < 4; what++) {
            Check.due("7: each its own", x.tell(1, what, 0), 11 + what);
        }
        Check.due("7: of the one part", x.tell(0, 3, 3), 3);
    }

    /** "REFUSED 5: some PART would FALL": the last value with which all stand, and the first with which not. */
    private static void tellRefused() {
        Lodge x = walls(2);
        x.arch(2, 10, 0, 0, 1);
        for (int p = 0; p < 3; p++) {
            x.tell(p, 3, 0);
            Check.layAll(x, p);
        }
        // 30 on each pier then: 7 of these and HOLDS of 3 meet the push of 10
        x.tell(0, 1, 3);
        x.tell(1, 1, 3);
        Check.due("11: strike(2)", x.strike(2), 1);
        Check.unchanged(x, "7: HOLDS", -15, l -> l.tell(0, 1, 2));
        Check.unchanged(x, "7: HOLDS of 0", -15, l -> l.tell(1, 1, 0));
        Check.unchanged(x, "7: BAD ahead of REFUSED", -1, l -> l.tell(1, 1, -1));
        Check.unchanged(x, "7: THRUST", -15, l -> l.tell(2, 2, 55));
        Check.unchanged(x, "7: BAD ahead of REFUSED", -1, l -> l.tell(2, 2, 101));
        Check.due("7: THRUST of which the rest is away", x.tell(2, 2, 54), 50);
        Check.unchanged(x, "7: BEARS of a pier", -15, l -> l.tell(0, 0, 29));
        Check.due("7: BEARS just enough", x.tell(0, 0, 30), 1000000);
        Check.unchanged(x, "7: BEARS of the arch", -15, l -> l.tell(2, 0, 19));
        Check.unchanged(x, "7: BEARS of 0", -15, l -> l.tell(2, 0, 0));
        Check.due("7: BEARS just enough", x.tell(2, 0, 20), 1000000);
        Check.due("7: HARD hurts nothing", x.tell(2, 3, 24), 0);
    }
}
