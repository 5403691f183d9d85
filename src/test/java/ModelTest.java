import java.util.Map;
import java.util.TreeMap;

/** Runs of drawn calls, the same for every run of the test: each answer of the class against the model's. */
public final class ModelTest {
    private static final int RUNS = 4000;
    private static final int CALLS = 512;
    private static final String SIGNS = "!+-*<=>&|";
    private static final String NAMES = "pknwmyfd";

    private final Map<String, Integer> answers = new TreeMap<>();
    private long seed;
    private ChurchLodge x;
    private Model y;
    private int run;
    private int call;
    private boolean wild;
    /** 1: arches, 2: plans changed, 3: texts, 4: many parts, 5: no text, much work; 0: a little of all. */
    private int mood;

    public static void main(String[] args) {
        int runs = args.length > 0 ? Integer.parseInt(args[0]) : RUNS;
        ModelTest t = new ModelTest();
        for (int i = 1; i <= runs; i++) {
            t.oneRun(i);
        }
        // what the draws must have reached for the comparison to say much
        String[] reached = {"lay done", "lay -11", "lay -12", "lay -13", "lay -14", "lay -15", "strike done",
            "strike -11", "strike -12", "strike -13", "strike -15", "tell -15", "prop -15", "falls NET", "falls done",
            "falls -5", "bear -2", "edit -2", "edit -3", "gift fault", "gift -3", "statute fault", "feed -3",
            "part -3", "down done", "as done", "statute -3", "bear -3"};
        for (String r : reached) {
            Check.dueTrue("the draws reach " + r, t.answers.containsKey(r));
        }
        if (args.length > 1) {
            System.out.println(t.answers);
        }
        Check.finish();
    }

    private int draw(int n) {
        seed = seed * 6364136223846793005L + 1442695040888963407L;
        return (int) ((seed >>> 33) % n);
    }

    private void oneRun(int number) {
        run = number;
        seed = number * 7919L;
        x = new ChurchLodge();
        y = new Model();
        wild = draw(8) == 0;
        mood = draw(6);
        int most = mood == 4 ? 99 : 3 + draw(12);
        call = 0;
        if (mood == 1) {
            nave();
        }
        while (call < CALLS - 30) {
            if (y.parts.size() < most && draw(mood == 4 ? 3 : 5) == 0 || y.parts.size() < 3 && mood != 0) {
                plan();
            } else {
                any();
            }
        }
    }

    private void same(String name, int got, int want, int... args) {
        String kind = want <= -100 && want >= -200 ? "fault" : name.equals("falls") && want >= 100 ? "NET"
            : want < 0 ? String.valueOf(want) : "done";
        call++;
        answers.merge(name + " " + kind, 1, Integer::sum);
        if (got != want) {
            Check.due("run " + run + ", call " + call + ": " + name + java.util.Arrays.toString(args), got, want);
        }
    }

    private int aPart() {
        int n = y.parts.size();
        return wild && draw(10) == 0 ? draw(44) - 2 : draw(20) == 0 ? draw(43) - 1 : n == 0 ? 0 : draw(n);
    }

    private int number(int least, int most) {
        if (draw(wild ? 6 : 40) == 0) {
            int[] odd = {least - 1, most + 1, least, most, Integer.MIN_VALUE, Integer.MAX_VALUE, 0, -1};
            return odd[draw(odd.length)];
        }
        return least + draw(most - least + 1);
    }

    private void plan() {
        int courses = draw(5) == 0 ? number(1, 30) : number(1, 4);
        int weight = draw(3) == 0 ? number(1, 999) : number(1, 40);
        int price = draw(3) == 0 ? number(0, 999) : number(0, 9);
        if (draw(3) == 0 || mood == 1 && y.parts.size() > 2 && draw(2) == 0) {
            int l = aPart();
            int r = aPart();
            same("arch", x.arch(courses, weight, price, l, r), y.arch(courses, weight, price, l, r), courses, weight,
                price, l, r);
        } else {
            same("part", x.part(courses, weight, price), y.part(courses, weight, price), courses, weight, price);
            if (draw(2) == 0) {
                bear(y.parts.size() - 1);
            }
        }
    }

    /** Piers and arches from each to the next, with little in the way of striking them. */
    private void nave() {
        int piers = 2 + draw(5);
        for (int p = 0; p < piers; p++) {
            int weight = number(1, 200);
            same("part", x.part(1, weight, 0), y.part(1, weight, 0), 1, weight, 0);
            if (draw(2) == 0) {
                int v = number(0, 90);
                same("prop", x.prop(p, v), y.prop(p, v), p, v);
            }
        }
        for (int p = 0; p + 1 < piers; p++) {
            int weight = number(1, 150);
            same("arch", x.arch(1, weight, 0, p, p + 1), y.arch(1, weight, 0, p, p + 1), 1, weight, 0, p, p + 1);
            int last = y.parts.size() - 1;
            int hard = draw(3);
            same("tell", x.tell(last, 3, hard), y.tell(last, 3, hard), last, 3, hard);
        }
    }

    private void bear(int part) {
        int[] t = {-1, -1, -1, -1};
        int n = draw(5);
        int rest = 12;
        for (int i = 0; i < n; i++) {
            int share = i == n - 1 ? rest : 1 + draw(Math.max(1, rest - 3));
            t[i] = 100 * (part > 0 ? draw(part) : 0) + share;
            rest -= share;
        }
        if (draw(12) == 0) {
            t[draw(4)] = draw(3) == 0 ? number(-2, 4012) : -1;
        }
        same("bear", x.bear(part, t[0], t[1], t[2], t[3]), y.bear(part, t), part, t[0], t[1], t[2], t[3]);
    }

    private void text(StringBuilder s, int depth) {
        int kind = draw(depth > 5 ? 3 : 7);
        if (kind == 0) {
            s.append((char) ('0' + draw(10)));
        } else if (kind == 1) {
            int digits = 2 + draw(4);
            s.append('#');
            for (int i = 0; i < digits; i++) {
                s.append((char) ('0' + draw(10)));
            }
            s.append(' ');
        } else if (kind == 2) {
            s.append(NAMES.charAt(draw(8)));
        } else {
            char sign = SIGNS.charAt(draw(9));
            s.append(sign);
            text(s, depth + 1);
            if (sign != '!') {
                text(s, depth + 1);
            }
        }
    }

    private void feed() {
        StringBuilder s = new StringBuilder();
        if (draw(25) == 0) {
            int n = 15 + draw(8);
            for (int i = 0; i < n; i++) {
                s.append(SIGNS.charAt(draw(3) == 0 ? draw(9) : 0));
            }
        }
        text(s, draw(3) == 0 ? 0 : 4);
        String all = "0123456789# " + SIGNS + NAMES + "az/:";
        if (draw(4) == 0) {
            s.setCharAt(draw(s.length()), all.charAt(draw(all.length())));
        }
        if (draw(8) == 0) {
            s.setLength(draw(s.length()) + 1);
        }
        int stop = Math.min(s.length(), 100);
        for (int i = 0; i < stop; i += 4) {
            int n = Math.min(4, stop - i);
            int v = draw(2) == 0 ? 0 : -1;
            for (int k = 0; k < n; k++) {
                v = v & ~(255 << 8 * k) | s.charAt(i + k) << 8 * k;
            }
            same("feed", x.feed(n, v), y.feed(n, v), n, v);
        }
        if (wild && draw(3) == 0) {
            int n = number(1, 4);
            int v = draw(Integer.MAX_VALUE);
            same("feed", x.feed(n, v), y.feed(n, v), n, v);
        }
    }

    private void any() {
        int favourite = draw(2) == 0 ? mood : 0;
        if (favourite == 1) {
            int kind = draw(3);
            if (kind == 0) {
                strike();
            } else if (kind == 1) {
                hold();
            } else {
                lay();
            }
        } else if (favourite == 2) {
            change();
        } else if (favourite == 3) {
            texts();
        } else if (favourite == 5) {
            lay();
        } else {
            anyOfAll();
        }
    }

    private void anyOfAll() {
        switch (draw(16)) {
            case 0: case 1: case 2: case 3: case 4: lay(); break;
            case 5: case 6: strike(); break;
            case 7: months(); break;
            case 8: if (mood != 5) { texts(); } else { coins(); } break;
            case 9: change(); break;
            case 10: case 11: hold(); break;
            default: ask();
        }
    }

    /** Sometimes what is lacking most below a part, so that churches grow high. */
    private void lay() {
        int p = aPart();
        for (int i = 0; i < y.parts.size() && draw(4) != 0; i++) {
            if (y.may(p) != 1 && y.may(p) != 2) {
                break;
            }
            p = draw(y.parts.size());
        }
        if (draw(2) == 0) {
            same("may", x.may(p), y.may(p), p);
        }
        if (draw(2) == 0) {
            same("falls", x.falls(p), y.falls(p), p);
        }
        same("lay", x.lay(p), y.lay(p), p);
    }

    private void strike() {
        int p = aPart();
        for (int i = 0; i < y.parts.size(); i++) {
            if (y.parts.get(i).centring && draw(2) == 0) {
                p = i;
            }
        }
        same("strike", x.strike(p), y.strike(p), p);
    }

    private void months() {
        int n = draw(4) == 0 ? number(1, 100) : number(1, 4);
        same("month", x.month(n), y.month(n), n);
        if (draw(4) == 0) {
            int f = draw(2) == 0 ? number(0, 4095) : 1 << draw(12);
            same("frost", x.frost(f), y.frost(f), f);
        }
        if (draw(2) == 0) {
            return;
        }
        int b = draw(3) == 0 ? number(0, 1200) : y.month + draw(15) - 1;
        same("bitter", x.bitter(b), y.bitter(b), b);
    }

    private void texts() {
        if (draw(2) == 0) {
            feed();
        }
        if (draw(3) == 0) {
            int from = draw(4) == 0 ? number(0, 1200) : y.month + draw(12) - 1;
            if (y.tape.isEmpty() && draw(5) != 0) {
                // a statute that lets some work be done, where the tape is empty
                int v = '+' | 'm' << 8 | '2' << 16;
                same("feed", x.feed(3, v), y.feed(3, v), 3, v);
            }
            same("statute", x.statute(from), y.statute(from), from);
        } else {
            coins();
        }
    }

    private void coins() {
        int coins = draw(3) == 0 ? number(1, 1000000) : number(1, 60);
        same("gift", x.gift(coins), y.gift(coins), coins);
    }

    private void change() {
        int p = draw(3) == 0 ? y.parts.size() - 1 : aPart();
        if (draw(3) == 0) {
            bear(p);
        } else {
            int n = number(1, draw(4) == 0 ? 30 : 5);
            same("edit", x.edit(p, n), y.edit(p, n), p, n);
        }
    }

    private void hold() {
        int p = aPart();
        if (draw(3) == 0) {
            int[] most = {1000000, 100000, 100, 24};
            int what = draw(15) == 0 ? draw(8) - 2 : draw(4);
            int v = number(0, what < 0 || what > 3 ? 9 : draw(2) == 0 ? most[what] : Math.min(most[what], 200));
            if (what == 0 && draw(2) == 0) {
                v = y.about(p, 3) + draw(120) - 10;
            }
            if (what == 3 && draw(2) == 0) {
                v = draw(2);
            }
            same("tell", x.tell(p, what, v), y.tell(p, what, v), p, what, v);
        } else {
            int v = draw(3) == 0 ? number(0, 100000) : y.about(p, 6) + draw(60) - 30;
            same("prop", x.prop(p, v), y.prop(p, v), p, v);
        }
    }

    private void ask() {
        int p = aPart();
        int what = number(0, 12);
        int i = draw(6) - 1;
        int m = draw(4) == 0 ? number(0, 1200) : draw(y.month + 2);
        int e = draw(y.editions.size() + 3) - 1;
        int g = draw(y.gifts.size() + 2) - 1;
        switch (draw(13)) {
            case 0: case 1: case 2: same("about", x.about(p, what), y.about(p, what), p, what); break;
            case 3: same("support", x.support(p, i), y.support(p, i), p, i); break;
            case 4: same("left", x.left(g, i), y.left(g, i), g, i); break;
            case 5: same("end", x.end(g, p), y.end(g, p), g, p); break;
            case 6: same("work", x.work(), y.work()); break;
            case 7: same("as", x.as(p, m), y.as(p, m), p, m); break;
            case 8: same("down", x.down(p), y.down(p), p); break;
            case 9: same("needs", x.needs(p), y.needs(p), p); break;
            case 10: same("wanted", x.wanted(e, p), y.wanted(e, p), e, p); break;
            case 11: same("count", x.count(what), y.count(what), what); break;
            default: same("about", x.about(p, 3 + what % 5), y.about(p, 3 + what % 5), p, 3 + what % 5);
        }
    }
}
