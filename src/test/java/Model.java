import java.util.ArrayList;
import java.util.HashMap;
import java.util.HashSet;
import java.util.List;
import java.util.Map;
import java.util.Set;
import java.util.TreeSet;

/**
 * The document once more, as plainly as its words: loads by asking upwards, editions and months as whole copies,
 * texts read again each time. Nothing here is shared with the class.
 */
final class Model {
    static final class P {
        int kind, made, wanted, weight, price, bears = 1000000, holds = 0, thrust = 50, hard = 3;
        int laid, age, prop;
        boolean centring;
        List<int[]> supports = new ArrayList<>();
    }

    static final class G {
        int coins, left;
        String text;
    }

    static final class S {
        int from;
        String text;
    }

    /** Where reading a text ends early. */
    static final class Fault extends RuntimeException {
        private static final long serialVersionUID = 1;
        final int place;

        Fault(int place) {
            this.place = place;
        }
    }

    final List<P> parts = new ArrayList<>();
    final List<G> gifts = new ArrayList<>();
    final List<S> statutes = new ArrayList<>();
    final List<List<Integer>> editions = new ArrayList<>();
    final Map<Integer, List<Integer>> laidAtEnd = new HashMap<>();
    final Set<Integer> bitter = new HashSet<>();
    int month, frost, done, paid;
    String tape = "";

    private boolean has(int p) {
        return p >= 0 && p < parts.size();
    }

    private static boolean in(int v, int least, int most) {
        return v >= least && v <= most;
    }

    // ---- loads

    private int load(int p) {
        P me = parts.get(p);
        int sum = me.laid * me.weight;
        for (P above : parts) {
            for (int i = 0; i < above.supports.size(); i++) {
                if (above.supports.get(i)[0] == p && !above.centring) {
                    sum += way(parts.indexOf(above), i);
                }
            }
        }
        return sum;
    }

    /** What goes from a part to its support i. */
    private int way(int p, int i) {
        P me = parts.get(p);
        int load = load(p);
        int way = (int) Math.floor(load * me.supports.get(i)[1] / 12.0);
        if (i == 0) {
            int rests = 0;
            for (int[] s : me.supports) {
                rests += load * s[1] % 12;
            }
            way += rests / 12;
        }
        return way;
    }

    private int push(int p, int side) {
        int sum = 0;
        for (P a : parts) {
            if (a.kind == 1 && a.laid > 0 && !a.centring && a.supports.get(side)[0] == p) {
                sum += load(parts.indexOf(a)) * a.thrust / 100;
            }
        }
        return sum;
    }

    private int fall() {
        for (int p = 0; p < parts.size(); p++) {
            P me = parts.get(p);
            if (me.laid == 0 || me.kind == 1 && me.centring) {
                continue;
            }
            int load = load(p);
            if (load > me.bears) {
                return p;
            }
            if (Math.abs(push(p, 0) - push(p, 1)) > me.holds + me.prop + load / 4) {
                return 100 + p;
            }
        }
        return -5;
    }

    // ---- texts

    private int at, part;
    private boolean forStatute;

    private int read(String t, int open) {
        if (at >= t.length()) {
            throw new Fault(t.length());
        }
        char c = t.charAt(at);
        if (c >= '0' && c <= '9') {
            at++;
            return c - '0';
        }
        if (c == '#') {
            return number(t);
        }
        if ("pknwmyfd".indexOf(c) >= 0) {
            at++;
            return name(c);
        }
        if ("!+-*<=>&|".indexOf(c) < 0 || open == 20) {
            throw new Fault(at);
        }
        at++;
        int a = read(t, open + 1);
        if (c == '!') {
            return a == 0 ? 1 : 0;
        }
        int b = read(t, open + 1);
        return switch (c) {
            case '+' -> a + b;
            case '-' -> a - b;
            case '*' -> a * b;
            case '<' -> a < b ? 1 : 0;
            case '=' -> a == b ? 1 : 0;
            case '>' -> a > b ? 1 : 0;
            case '&' -> a != 0 && b != 0 ? 1 : 0;
            default -> a != 0 || b != 0 ? 1 : 0;
        };
    }

    private int number(String t) {
        at++;
        String digits = "";
        while (true) {
            if (at >= t.length()) {
                throw new Fault(t.length());
            }
            char c = t.charAt(at);
            if (c == ' ' && digits.length() >= 2) {
                at++;
                return Integer.parseInt(digits);
            }
            if (!(c >= '0' && c <= '9') || digits.length() == 5) {
                throw new Fault(at);
            }
            digits += c;
            at++;
        }
    }

    private int name(char c) {
        if ("pknw".indexOf(c) >= 0 && forStatute) {
            return 0;
        }
        return switch (c) {
            case 'p' -> part;
            case 'k' -> parts.get(part).kind;
            case 'n' -> parts.get(part).laid;
            case 'w' -> parts.get(part).wanted;
            case 'm' -> month % 12;
            case 'y' -> month / 12;
            case 'f' -> frosty() ? 1 : 0;
            default -> done;
        };
    }

    private boolean frosty() {
        return (frost >> month % 12 & 1) == 1 || bitter.contains(month);
    }

    private int fault(String t) {
        at = 0;
        forStatute = true;
        try {
            read(t, 0);
        } catch (Fault f) {
            return f.place;
        }
        return at < t.length() ? at : -1;
    }

    private int says(String t, int p) {
        at = 0;
        forStatute = p < 0;
        part = p;
        return read(t, 0);
    }

    private int says(G g, int p) {
        return g.text.isEmpty() ? 1 : says(g.text, p);
    }

    // ---- the calls

    int part(int courses, int weight, int price) {
        if (!in(courses, 1, 30) || !in(weight, 1, 999) || !in(price, 0, 999)) {
            return -1;
        }
        if (parts.size() == 40) {
            return -3;
        }
        P p = new P();
        p.made = courses;
        p.wanted = courses;
        p.weight = weight;
        p.price = price;
        parts.add(p);
        return parts.size() - 1;
    }

    int arch(int courses, int weight, int price, int left, int right) {
        if (!has(left) || !has(right) || left == right) {
            return -1;
        }
        int n = part(courses, weight, price);
        if (n >= 0) {
            parts.get(n).kind = 1;
            parts.get(n).supports.add(new int[] {left, 6});
            parts.get(n).supports.add(new int[] {right, 6});
        }
        return n;
    }

    int bear(int part, int... told) {
        if (!has(part)) {
            return -1;
        }
        List<int[]> read = new ArrayList<>();
        Set<Integer> seen = new TreeSet<>();
        int twelfths = 0;
        boolean behind = false;
        for (int t : told) {
            if (t == -1) {
                behind = true;
            } else {
                int share = t % 100;
                if (behind || t < 0 || share < 1 || share > 12 || t / 100 >= part || !seen.add(t / 100)) {
                    return -1;
                }
                twelfths += share;
                read.add(new int[] {t / 100, share});
            }
        }
        P p = parts.get(part);
        if (read.isEmpty() ? p.kind == 1 : twelfths != 12 || p.kind == 1 && read.size() == 1) {
            return -1;
        }
        if (p.laid > 0) {
            return -2;
        }
        if (editions.size() == 60) {
            return -3;
        }
        p.supports = read;
        newEdition();
        return read.size();
    }

    private void newEdition() {
        List<Integer> all = new ArrayList<>();
        for (P p : parts) {
            all.add(p.wanted);
        }
        editions.add(all);
    }

    int edit(int part, int n) {
        if (!has(part) || !in(n, 1, 30)) {
            return -1;
        }
        if (parts.get(part).laid > 0) {
            return -2;
        }
        if (editions.size() == 60) {
            return -3;
        }
        parts.get(part).wanted = n;
        newEdition();
        return editions.size();
    }

    int wanted(int edition, int part) {
        if (!has(part) || !in(edition, 0, editions.size())) {
            return -1;
        }
        if (edition == 0) {
            return parts.get(part).made;
        }
        List<Integer> then = editions.get(edition - 1);
        return part < then.size() ? then.get(part) : -1;
    }

    private static int told(P p, int what, int v) {
        int was;
        switch (what) {
            case 0: was = p.bears; p.bears = v; break;
            case 1: was = p.holds; p.holds = v; break;
            case 2: was = p.thrust; p.thrust = v; break;
            default: was = p.hard; p.hard = v; break;
        }
        return was;
    }

    int tell(int part, int what, int v) {
        if (!has(part) || !in(what, 0, 3) || !in(v, 0, List.of(1000000, 100000, 100, 24).get(what))) {
            return -1;
        }
        int was = told(parts.get(part), what, v);
        if (fall() != -5) {
            told(parts.get(part), what, was);
            return -15;
        }
        return was;
    }

    int may(int part) {
        if (!has(part)) {
            return -1;
        }
        P p = parts.get(part);
        if (p.laid == p.wanted) {
            return 1;
        }
        for (int[] s : p.supports) {
            P below = parts.get(s[0]);
            if (below.laid < below.wanted || below.centring) {
                return 2;
            }
        }
        if (done >= work()) {
            return 3;
        }
        int coins = 0;
        for (G g : gifts) {
            coins += says(g, part) != 0 ? g.left : 0;
        }
        if (coins < p.price) {
            return 4;
        }
        return falls(part) == -5 ? 0 : 5;
    }

    int lay(int part) {
        int may = may(part);
        if (may != 0) {
            return may == -1 ? -1 : -10 - may;
        }
        P p = parts.get(part);
        for (int coin = 0; coin < p.price; coin++) {
            for (G g : gifts) {
                if (g.left > 0 && says(g, part) != 0) {
                    g.left--;
                    paid++;
                    break;
                }
            }
        }
        p.centring |= p.kind == 1;
        p.age = 0;
        done++;
        return ++p.laid;
    }

    int falls(int part) {
        if (!has(part)) {
            return -1;
        }
        P p = parts.get(part);
        boolean was = p.centring;
        if (p.kind == 1 && p.laid == 0) {
            p.centring = true;
        }
        p.laid++;
        int answer = fall();
        p.laid--;
        p.centring = was;
        return answer;
    }

    int strike(int arch) {
        if (!has(arch)) {
            return -1;
        }
        P p = parts.get(arch);
        if (!p.centring) {
            return -11;
        }
        if (p.laid < p.wanted) {
            return -12;
        }
        if (p.age < p.hard) {
            return -13;
        }
        p.centring = false;
        if (fall() != -5) {
            p.centring = true;
            return -15;
        }
        return 1;
    }

    int prop(int part, int v) {
        if (!has(part) || !in(v, 0, 100000)) {
            return -1;
        }
        int was = parts.get(part).prop;
        parts.get(part).prop = v;
        if (v < was && fall() != -5) {
            parts.get(part).prop = was;
            return -15;
        }
        return was;
    }

    int month(int n) {
        if (!in(n, 1, 100) || month + n > 1200) {
            return -1;
        }
        for (int i = 0; i < n; i++) {
            List<Integer> laid = new ArrayList<>();
            for (P p : parts) {
                laid.add(p.laid);
                if (p.laid > 0 && !frosty()) {
                    p.age++;
                }
            }
            laidAtEnd.put(month, laid);
            month++;
        }
        done = 0;
        return month;
    }

    int frost(int months) {
        if (!in(months, 0, 4095)) {
            return -1;
        }
        int was = frost;
        frost = months;
        return was;
    }

    int bitter(int m) {
        return !in(m, month, 1200) ? -1 : bitter.add(m) ? 1 : 0;
    }

    int feed(int n, int v) {
        if (!in(n, 1, 4)) {
            return -1;
        }
        if (tape.length() + n > 100) {
            return -3;
        }
        for (int i = 0; i < n; i++) {
            tape += (char) (v >>> 8 * i & 0xff);
        }
        return tape.length();
    }

    int gift(int coins) {
        if (!in(coins, 1, 1000000)) {
            return -1;
        }
        if (gifts.size() == 30) {
            return -3;
        }
        G g = new G();
        g.coins = coins;
        g.left = coins;
        g.text = tape;
        tape = "";
        int fault = g.text.isEmpty() ? -1 : fault(g.text);
        if (fault >= 0) {
            return -100 - fault;
        }
        gifts.add(g);
        return gifts.size() - 1;
    }

    int statute(int from) {
        if (!in(from, month, 1200)) {
            return -1;
        }
        if (statutes.size() == 20) {
            return -3;
        }
        S s = new S();
        s.from = from;
        s.text = tape;
        tape = "";
        int fault = fault(s.text);
        if (fault >= 0) {
            return -100 - fault;
        }
        statutes.add(s);
        return statutes.size();
    }

    int end(int gift, int part) {
        return !in(gift, 0, gifts.size() - 1) || !has(part) ? -2000000000 : says(gifts.get(gift), part);
    }

    int about(int part, int what) {
        if (!has(part) || !in(what, 0, 12)) {
            return -1;
        }
        P p = parts.get(part);
        int borne = 0;
        for (P above : parts) {
            for (int[] s : above.supports) {
                borne += s[0] == part ? 1 : 0;
            }
        }
        int toLeft = push(part, 0);
        int toRight = push(part, 1);
        return new int[] {p.kind, p.wanted, p.laid, load(part), p.age, p.centring ? 1 : 0, Math.abs(toLeft - toRight),
            toRight > toLeft ? 1 : 0, p.prop, p.supports.size(), borne, p.weight, p.price}[what];
    }

    int support(int part, int i) {
        if (!has(part) || !in(i, 0, parts.get(part).supports.size() - 1)) {
            return -1;
        }
        int[] s = parts.get(part).supports.get(i);
        return 100 * s[0] + s[1];
    }

    int left(int gift, int what) {
        if (!in(gift, 0, gifts.size() - 1) || !in(what, 0, 1)) {
            return -1;
        }
        return what == 0 ? gifts.get(gift).left : gifts.get(gift).coins;
    }

    int work() {
        int says = 10;
        for (S s : statutes) {
            if (s.from <= month) {
                says = Math.max(0, says(s.text, -1));
            }
        }
        return says;
    }

    int as(int part, int m) {
        if (!has(part) || !in(m, 0, month)) {
            return -1;
        }
        if (m == month) {
            return parts.get(part).laid;
        }
        List<Integer> then = laidAtEnd.get(m);
        return part < then.size() ? then.get(part) : 0;
    }

    int down(int part) {
        if (!has(part)) {
            return -1;
        }
        P p = parts.get(part);
        if (p.supports.isEmpty() || p.centring) {
            return -5;
        }
        int most = -1;
        int along = -5;
        for (int i = 0; i < p.supports.size(); i++) {
            if (way(part, i) > most) {
                most = way(part, i);
                along = p.supports.get(i)[0];
            }
        }
        return along;
    }

    private void below(int part, Set<Integer> all) {
        if (all.add(part)) {
            for (int[] s : parts.get(part).supports) {
                below(s[0], all);
            }
        }
    }

    int needs(int part) {
        if (!has(part)) {
            return -1;
        }
        Set<Integer> all = new HashSet<>();
        below(part, all);
        int sum = 0;
        for (int p : all) {
            sum += parts.get(p).wanted - parts.get(p).laid;
        }
        return sum;
    }

    int count(int what) {
        int laid = 0;
        for (P p : parts) {
            laid += p.laid;
        }
        int left = 0;
        for (G g : gifts) {
            left += g.left;
        }
        int[] all = {parts.size(), gifts.size(), month, editions.size(), done, laid, left, paid, statutes.size(),
            tape.length()};
        return in(what, 0, 9) ? all[what] : -1;
    }
}
