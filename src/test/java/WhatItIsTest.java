import java.util.ArrayList;
import java.util.List;

/**
 * What the document's first sentences say of the whole, in drawn churches. The test keeps what it told and did itself
 * (a Drawn for each part, the months' frost), and asks the rest of copies.
 */
public final class WhatItIsTest {
    private static final int RUNS = 150;
    private static final int MOST_CALLS = 300;
    private static final int MOST_PARTS = 16;
    private static final String[] ENDS = {"", "k", "!k", "<p4", ">n0", "=m1", "f", "!d", "0", "&k!f"};

    /** What was told of a part and what was done to it. */
    private static final class Drawn {
        int bears = 1000000, holds = 0, hard = 3, age = 0;
        boolean struck = false;
        String planWhenBegun = null;
        final List<Integer> laidAtEnd = new ArrayList<>();
    }

    private Lodge x;
    private long seed;
    private int calls;
    private int month;
    private int frost;
    private int gifts;
    private final boolean[] bitter = new boolean[1201];
    private final List<Drawn> parts = new ArrayList<>();
    private static int laidInAll, struckInAll, refusedInAll, keptInAll;

    public static void main(String[] args) {
        for (int run = 1; run <= RUNS; run++) {
            new WhatItIsTest().church(run);
        }
        Check.dueTrue("courses were laid", laidInAll > 1500);
        Check.dueTrue("centrings were struck", struckInAll > 100);
        Check.dueTrue("something would have fallen", refusedInAll > 100);
        Check.dueTrue("plans of what stands were asked to change", keptInAll > 100);
        Check.finish();
    }

    private int draw(int n) {
        seed = seed * 6364136223846793005L + 1442695040888963407L;
        return (int) ((seed >>> 33) % n);
    }

    private void church(int run) {
        x = new Lodge();
        seed = run * 104729L;
        plan();
        for (int i = 0; i < 4; i++) {
            give();
        }
        for (calls = 0; calls < MOST_CALLS - 60; calls++) {
            anything();
            if (calls % 40 == 0) {
                whole();
            }
        }
        whole();
        plansStay();
        asItWas();
    }

    private void plan() {
        int piers = 2 + draw(4);
        for (int p = 0; p < piers; p++) {
            add(x.part(1 + draw(2), 1 + draw(120), draw(6)));
        }
        for (int p = 0; p + 1 < piers; p++) {
            add(x.arch(1 + draw(2), 1 + draw(90), draw(6), p, p + 1));
        }
        while (parts.size() < MOST_PARTS) {
            int below = draw(parts.size());
            int beside = draw(parts.size());
            if (below != beside && draw(3) == 0) {
                add(x.arch(1, 1 + draw(90), draw(6), below, beside));
            } else {
                add(x.part(1 + draw(3), 1 + draw(120), draw(6)));
                bear(parts.size() - 1);
            }
        }
    }

    private void add(int number) {
        Check.due("2, 3: its number", number, parts.size());
        parts.add(new Drawn());
    }

    private int bear(int p) {
        int a = draw(Math.max(1, p));
        int b = draw(Math.max(1, p));
        int share = 1 + draw(11);
        return a == b ? x.bear(p, 100 * a + 12, -1, -1, -1) : x.bear(p, 100 * a + share, 100 * b + 12 - share, -1, -1);
    }

    private void give() {
        if (gifts < 10) {
            // now and then much for any part, so that churches grow high
            boolean rich = draw(5) == 0;
            int coins = rich ? 300 : 1 + draw(60);
            Check.due("17: its number", Check.gift(x, coins, rich ? "" : ENDS[draw(ENDS.length)]), gifts);
            gifts++;
        }
    }

    private void anything() {
        int p = draw(parts.size());
        int kind = draw(20);
        if (kind < 9) {
            lay(p);
        } else if (kind < 13) {
            strike(p);
        } else if (kind < 15) {
            hold(p);
        } else if (kind < 17) {
            goBy(1 + draw(3));
        } else if (kind == 17) {
            cold();
        } else if (kind == 18) {
            give();
        } else {
            change(p);
        }
    }

    /** "gifts spent just on what their texts name", the first one first. */
    private void lay(int p) {
        Lodge before = x.copy();
        int hindrance = before.may(p);
        int price = before.about(p, 12);
        int answer = x.lay(p);
        boolean done = answer > 0;
        Lodge behind = x.copy();
        int due = done ? price : 0;
        for (int g = 0; g < gifts; g++) {
            int had = before.left(g, 0);
            int share = before.end(g, p) != 0 ? Math.min(due, had) : 0;
            Check.due("8: left of gift " + g, behind.left(g, 0), had - share);
            due -= share;
        }
        Check.due("8: what is not paid", due, 0);
        Check.due("8: LAID, or REFUSED as may told", answer, hindrance == 0 ? before.about(p, 2) + 1 : -10 - hindrance);
        if (done) {
            laidInAll++;
            Drawn d = parts.get(p);
            d.age = 0;
            if (d.planWhenBegun == null) {
                d.planWhenBegun = planOf(behind, p);
            }
        } else if (answer == -15) {
            refusedInAll++;
        }
    }

    /** "arches on centring till their mortar is hard". */
    private void strike(int p) {
        Drawn d = parts.get(p);
        Lodge before = x.copy();
        Check.due("20: AGE", before.about(p, 4), d.age);
        boolean onCentring = before.about(p, 0) == 1 && before.about(p, 2) > 0 && !d.struck;
        Check.due("20: CENTRING", before.about(p, 5), onCentring ? 1 : 0);
        boolean ready = onCentring && before.about(p, 2) == before.about(p, 1) && d.age >= d.hard;
        int answer = x.strike(p);
        Check.dueTrue("11: " + answer + " of what is ready: " + ready,
            ready ? answer == 1 || answer == -15 : answer <= -11 && answer >= -13);
        if (answer == 1) {
            d.struck = true;
            struckInAll++;
        } else if (answer == -15) {
            refusedInAll++;
        }
    }

    private void hold(int p) {
        Drawn d = parts.get(p);
        int v = draw(150);
        switch (draw(5)) {
            case 0: d.bears = told(p, 0, 40 + 4 * v, d.bears); break;
            case 1: d.holds = told(p, 1, v, d.holds); break;
            case 2: x.tell(p, 2, v % 101); break;
            case 3: d.hard = told(p, 3, v % 4, d.hard); break;
            default: x.prop(p, v);
        }
    }

    private int told(int p, int what, int v, int before) {
        int answer = x.tell(p, what, v);
        Check.dueTrue("7: what it was, or REFUSED", answer == before || answer == -15);
        return answer == -15 ? before : v;
    }

    private void goBy(int n) {
        Lodge now = x.copy();
        for (int i = 0; i < n; i++) {
            boolean cold = bitter[month] || (frost >> month % 12 & 1) != 0;
            for (int p = 0; p < parts.size(); p++) {
                Drawn d = parts.get(p);
                int laid = i == 0 ? now.about(p, 2) : d.laidAtEnd.get(month - 1);
                d.laidAtEnd.add(laid);
                d.age += laid > 0 && !cold ? 1 : 0;
            }
            month++;
        }
        Check.due("13: MONTH", x.month(n), month);
    }

    private void cold() {
        if (draw(2) == 0) {
            int months = draw(4096) & draw(4096);
            Check.due("14: what it was", x.frost(months), frost);
            frost = months;
        } else {
            int m = month + draw(4);
            Check.due("15: whether it wasn't bitter", x.bitter(m), bitter[m] ? 0 : 1);
            bitter[m] = true;
        }
    }

    /** "plans changed by new masters as far as nothing stands yet". */
    private void change(int p) {
        boolean begun = parts.get(p).planWhenBegun != null;
        int answer;
        if (draw(2) == 0) {
            answer = x.edit(p, 1 + draw(3));
        } else if (p > 1) {
            int share = 1 + draw(11);
            answer = x.bear(p, 100 * (p - 1) + share, 100 * (p - 2) + 12 - share, -1, -1);
        } else {
            return;
        }
        Check.dueTrue("4, 5: " + answer + " of what is begun: " + begun, begun == (answer == -2));
        keptInAll += begun ? 1 : 0;
    }

    /** "parts borne by parts in told shares", "nothing done by which anything would fall". */
    private void whole() {
        Lodge asked = x.copy();
        int weights = 0;
        int borne = 0;
        for (int p = 0; p < parts.size(); p++) {
            Drawn d = parts.get(p);
            int laid = asked.about(p, 2);
            int load = asked.about(p, 3);
            boolean onCentring = asked.about(p, 5) == 1;
            int supports = asked.about(p, 9);
            weights += laid * asked.about(p, 11);
            borne += onCentring || supports == 0 ? load : 0;
            if (laid > 0 && !onCentring) {
                Check.dueTrue("1: no LOAD above BEARS", load <= d.bears);
                Check.dueTrue("1: no NET above what holds",
                    asked.about(p, 6) <= d.holds + asked.about(p, 8) + load / 4);
            }
        }
        Check.due("1: all weights come to the ground or lie on centring", borne, weights);
    }

    private static String planOf(Lodge asked, int p) {
        StringBuilder s = new StringBuilder();
        s.append(asked.about(p, 1));
        for (int i = 0; i < 4; i++) {
            s.append(' ').append(asked.support(p, i));
        }
        return s.toString();
    }

    /** What is begun is as it was planned then, and stands on what is whole and free of centring. */
    private void plansStay() {
        Lodge asked = x.copy();
        for (int p = 0; p < parts.size(); p++) {
            String then = parts.get(p).planWhenBegun;
            if (then != null) {
                Check.dueTrue("4: the plan stays", planOf(asked, p).equals(then));
                for (int i = asked.about(p, 9) - 1; i >= 0; i--) {
                    Check.due("8: what it stands on is whole", asked.copy().needs(asked.support(p, i) / 100), 0);
                    Check.due("8: and free of centring", asked.copy().about(asked.support(p, i) / 100, 5), 0);
                }
            }
        }
    }

    /** "the building as it was in any month". */
    private void asItWas() {
        for (int p = 0; p < parts.size(); p++) {
            Lodge asked = x.copy();
            int from = Math.max(0, month - 100);
            for (int m = from; m < month; m++) {
                int then = parts.get(p).laidAtEnd.get(m);
                Check.due("24: as(" + p + ", " + m + ") in month " + month, asked.as(p, m), then);
            }
            Check.due("24: now", asked.as(p, month), asked.about(p, 2));
        }
    }
}
