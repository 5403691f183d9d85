import java.util.ArrayList;
import java.util.List;
import java.util.function.ToIntFunction;

/**
 * A ChurchLodge whose calls are kept, so that it can be made again: what is asked of a copy leaves the first one
 * as it is, and costs it none of the 512 calls for which the document promises answers.
 */
final class Lodge {
    private static final int MOST_CALLS = 512;

    private final ChurchLodge x = new ChurchLodge();
    private final List<ToIntFunction<ChurchLodge>> calls = new ArrayList<>();

    Lodge copy() {
        Lodge other = new Lodge();
        for (ToIntFunction<ChurchLodge> call : calls) {
            other.answer(call);
        }
        return other;
    }

    private int answer(ToIntFunction<ChurchLodge> call) {
        calls.add(call);
        Check.dueTrue("a test keeps to 512 calls of an object", calls.size() != MOST_CALLS + 1);
        return call.applyAsInt(x);
    }

    // ---- the calls of the face

    int part(int courses, int weight, int price) {
        return answer(l -> l.part(courses, weight, price));
    }

    int arch(int courses, int weight, int price, int left, int right) {
        return answer(l -> l.arch(courses, weight, price, left, right));
    }

    int bear(int part, int a, int b, int c, int d) {
        return answer(l -> l.bear(part, a, b, c, d));
    }

    int edit(int part, int n) {
        return answer(l -> l.edit(part, n));
    }

    int wanted(int edition, int part) {
        return answer(l -> l.wanted(edition, part));
    }

    int tell(int part, int what, int v) {
        return answer(l -> l.tell(part, what, v));
    }

    int lay(int part) {
        return answer(l -> l.lay(part));
    }

    int may(int part) {
        return answer(l -> l.may(part));
    }

    int falls(int part) {
        return answer(l -> l.falls(part));
    }

    int strike(int arch) {
        return answer(l -> l.strike(arch));
    }

    int prop(int part, int v) {
        return answer(l -> l.prop(part, v));
    }

    int month(int n) {
        return answer(l -> l.month(n));
    }

    int frost(int months) {
        return answer(l -> l.frost(months));
    }

    int bitter(int month) {
        return answer(l -> l.bitter(month));
    }

    int feed(int n, int v) {
        return answer(l -> l.feed(n, v));
    }

    int gift(int coins) {
        return answer(l -> l.gift(coins));
    }

    int statute(int from) {
        return answer(l -> l.statute(from));
    }

    int end(int gift, int part) {
        return answer(l -> l.end(gift, part));
    }

    int about(int part, int what) {
        return answer(l -> l.about(part, what));
    }

    int support(int part, int i) {
        return answer(l -> l.support(part, i));
    }

    int left(int gift, int what) {
        return answer(l -> l.left(gift, what));
    }

    int work() {
        return answer(l -> l.work());
    }

    int as(int part, int month) {
        return answer(l -> l.as(part, month));
    }

    int down(int part) {
        return answer(l -> l.down(part));
    }

    int needs(int part) {
        return answer(l -> l.needs(part));
    }

    int count(int what) {
        return answer(l -> l.count(what));
    }

    // ---- all that can be asked

    /** What other calls answer now, as one text; also what can be seen just by changing it, as copies bear that. */
    String state() {
        StringBuilder s = new StringBuilder();
        Lodge asked = copy();
        for (int what = 0; what <= 9; what++) {
            s.append(asked.count(what)).append(' ');
        }
        s.append(asked.work());
        int parts = asked.count(0);
        for (int p = 0; p < parts; p++) {
            s.append("\npart ").append(p).append(':');
            copy().addPart(s, p);
        }
        s.append("\ntold:");
        copy().addTold(s, parts);
        s.append("\ngifts:");
        copy().addGifts(s, parts);
        s.append("\nfrost:");
        copy().addFrost(s);
        s.append("\nmonths:");
        copy().addMonths(s, parts);
        s.append("\ntape:");
        copy().addTape(s);
        return s.toString();
    }

    private void addPart(StringBuilder s, int p) {
        for (int what = 0; what <= 12; what++) {
            s.append(' ').append(about(p, what));
        }
        for (int i = 0; i < 4; i++) {
            s.append(' ').append(support(p, i));
        }
        s.append(" / ").append(may(p)).append(' ').append(falls(p));
        s.append(' ').append(down(p)).append(' ').append(needs(p)).append(" /");
        int editions = count(3);
        for (int e = 0; e <= editions; e++) {
            s.append(' ').append(wanted(e, p));
        }
        s.append(" /");
        int now = count(2);
        for (int m = Math.max(0, now - 30); m <= now; m++) {
            s.append(' ').append(as(p, m));
        }
    }

    /** HOLDS and PROP first: behind these hardly anything can fall by what is told next. */
    private void addTold(StringBuilder s, int parts) {
        for (int p = 0; p < parts; p++) {
            s.append(' ').append(tell(p, 1, 100000)).append(' ').append(prop(p, 100000));
        }
        for (int p = 0; p < parts; p++) {
            s.append(' ').append(tell(p, 0, 1000000)).append(' ').append(tell(p, 2, 0)).append(' ').append(tell(p, 3, 0));
        }
    }

    private void addGifts(StringBuilder s, int parts) {
        int gifts = count(1);
        for (int g = 0; g < gifts; g++) {
            s.append(' ').append(left(g, 0)).append(' ').append(left(g, 1));
            s.append(' ').append(end(g, 0)).append(' ').append(end(g, parts - 1));
        }
    }

    private void addFrost(StringBuilder s) {
        s.append(' ').append(frost(0));
        int now = count(2);
        for (int m = now; m <= now + 26; m++) {
            s.append(' ').append(bitter(m));
        }
        s.append(' ').append(bitter(1200));
    }

    private void addMonths(StringBuilder s, int parts) {
        for (int i = 0; i < 26; i++) {
            s.append(' ').append(month(1)).append(' ').append(work());
            if (parts > 0) {
                s.append(' ').append(about(i % parts, 4));
            }
        }
    }

    private void addTape(StringBuilder s) {
        int part = part(7, 1, 0);
        int made = gift(1);
        s.append(' ').append(made).append(' ').append(end(made, Math.max(0, part)));
    }
}
