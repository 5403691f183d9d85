import java.util.ArrayList;
import java.util.List;
import java.util.function.ToIntFunction;

/**
 * Any arguments in any state, also behind the 512th call: no call throws (LANGUAGE.md, rule 7). "All memory is the
 * class's own": objects that are called in turns answer as each of them alone, and the same again.
 */
public final class AnyCallTest {
    private static final int[] ODD = {Integer.MIN_VALUE, Integer.MIN_VALUE + 1, -2000000000, -1000, -101, -100, -12, -5,
        -3, -2, -1, 0, 1, 2, 3, 4, 5, 6, 9, 11, 12, 13, 19, 20, 21, 24, 25, 29, 30, 31, 39, 40, 41, 59, 60, 61, 99, 100,
        101, 106, 112, 206, 512, 999, 1000, 1199, 1200, 1201, 3912, 4012, 4095, 4096, 100000, 100001, 1000000, 1000001,
        '!', '+', '#', '=' | 'p' << 8 | '1' << 16, '#' | '1' << 8 | '2' << 16 | ' ' << 24, Integer.MAX_VALUE - 1,
        Integer.MAX_VALUE};

    private final int[] most = new int[10];
    private int mood;
    private long seed;

    public static void main(String[] args) {
        AnyCallTest t = new AnyCallTest();
        for (int run = 1; run <= 40; run++) {
            t.seed = run * 15485863L;
            t.mood = run % 4;
            t.anyCalls(6000);
        }
        t.dueReached();
        for (int run = 1; run <= 60; run++) {
            t.seed = run * 32452843L;
            t.inTurns();
        }
        Check.finish();
    }

    private int draw(int n) {
        seed = seed * 6364136223846793005L + 1442695040888963407L;
        return (int) ((seed >>> 33) % n);
    }

    private int number() {
        int kind = draw(4);
        return kind == 0 ? ODD[draw(ODD.length)] : kind == 1 ? draw(40) : draw(6);
    }

    /** In every second call what fills something of the object that any calls seldom fill. */
    private ToIntFunction<ChurchLodge> call() {
        int a = number();
        int b = number();
        if (mood == 1 && draw(2) == 0) {
            return l -> l.edit(l.count(0) - 1, 1 + Math.floorMod(a, 30));
        }
        if (mood == 2 && draw(2) == 0) {
            return l -> l.count(9) == 0 ? l.feed(1, '7') : l.statute(l.count(2) + (b & 1));
        }
        if (mood == 3 && draw(2) == 0) {
            return l -> l.feed(4, b);
        }
        return anyCall();
    }

    /** Each call of the face with drawn numbers; many of them small, so that much is taken. */
    private ToIntFunction<ChurchLodge> anyCall() {
        int a = number();
        int b = number();
        int c = number();
        int d = number();
        int e = number();
        switch (draw(40)) {
            case 0: return l -> l.part(a, b, c);
            case 1: return l -> l.arch(a, b, c, d, e);
            case 2: return l -> l.bear(a, b, c, d, e);
            case 3: return l -> l.bear(a, 100 * b + 6, 100 * c + 6, -1, -1);
            case 4: return l -> l.edit(a, b);
            case 5: return l -> l.wanted(a, b);
            case 6: return l -> l.tell(a, b, c);
            case 7: return l -> l.may(a);
            case 8: return l -> l.falls(a);
            case 9: return l -> l.strike(a);
            case 10: return l -> l.prop(a, b);
            case 11: return l -> l.month(a);
            case 12: return l -> l.frost(a);
            case 13: return l -> l.bitter(a);
            case 14: return l -> l.feed(a, b);
            case 15: return l -> l.gift(a);
            case 16: return l -> l.statute(a);
            case 17: return l -> l.end(a, b);
            case 18: return l -> l.about(a, b);
            case 19: return l -> l.support(a, b);
            case 20: return l -> l.left(a, b);
            case 21: return l -> l.work();
            case 22: return l -> l.as(a, b);
            case 23: return l -> l.down(a);
            case 24: return l -> l.needs(a);
            case 25: return l -> l.count(a);
            case 26: return l -> l.statute(l.count(2));
            case 27: return l -> l.arch(1 + (a & 1), 1 + (b & 7), 0, c, d);
            case 28: return l -> l.part(1 + (a & 3), 1 + (b & 7), 0);
            case 29: return l -> l.strike(Math.floorMod(a, Math.max(1, l.count(0))));
            case 30: return l -> l.about(Math.floorMod(a, Math.max(1, l.count(0))), Math.floorMod(b, 13));
            case 31: return l -> l.lay(Math.floorMod(a, Math.max(1, l.count(0))));
            default: return l -> l.lay(a);
        }
    }

    private void anyCalls(int many) {
        ChurchLodge x = new ChurchLodge();
        for (int i = 1; i <= many; i++) {
            try {
                call().applyAsInt(x);
            } catch (RuntimeException thrown) {
                Check.dueTrue("call " + i + " threw " + thrown, false);
                return;
            }
        }
        for (int what = 0; what < most.length; what++) {
            most[what] = Math.max(most[what], x.count(what));
        }
    }

    /** The calls must have filled all that can be full, for their not throwing to say much. */
    private void dueReached() {
        int[] full = {40, 30, 1200, 60, 1, 20, 1, 1, 20, 90};
        for (int what = 0; what < full.length; what++) {
            Check.dueTrue("27: count(" + what + ") came to " + full[what], most[what] >= full[what]);
        }
    }

    private void inTurns() {
        List<List<ToIntFunction<ChurchLodge>>> runs = new ArrayList<>();
        List<List<Integer>> alone = new ArrayList<>();
        for (int k = 0; k < 5; k++) {
            List<ToIntFunction<ChurchLodge>> run = new ArrayList<>();
            List<Integer> answers = new ArrayList<>();
            ChurchLodge x = new ChurchLodge();
            // some of the calls ask something of the object first: these count, too
            for (int i = 0; i < 250; i++) {
                run.add(call());
                answers.add(run.get(i).applyAsInt(x));
            }
            runs.add(run);
            alone.add(answers);
        }
        List<ChurchLodge> objects = new ArrayList<>();
        for (int k = 0; k < 5; k++) {
            objects.add(new ChurchLodge());
        }
        for (int i = 0; i < 250; i++) {
            for (int k = 0; k < 5; k++) {
                Check.due("object " + k + ", call " + (i + 1) + ", in turns with others",
                    runs.get(k).get(i).applyAsInt(objects.get(k)), alone.get(k).get(i));
            }
        }
    }
}
