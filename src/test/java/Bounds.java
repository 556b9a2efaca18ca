import java.util.ArrayList;
import java.util.List;
import java.util.function.Supplier;
import java.util.function.ToLongFunction;

/** What the tests of bounds share: churches of so many people, the last springs, draws, and twins. */
final class Bounds {
    /** DRAWS as the document tells them. */
    static final class Draws {
        private long x;

        Draws(long seed) {
            x = seed;
        }

        int next(int m) {
            x = (1103515245L * x + 12345) % (1L << 31);
            return (int) (x / 64 % m);
        }
    }

    private Bounds() {
    }

    /** So many on the left, la lb lc .., and on the right, ra rb rc .., their hands all 0. */
    static String people(int lefts, int rights) {
        StringBuilder s = new StringBuilder();
        for (int i = 0; i < lefts; i++) {
            s.append("left l").append((char) ('a' + i)).append(" warm 0 work 0 size 0;");
        }
        for (int i = 0; i < rights; i++) {
            s.append("right r").append((char) ('a' + i)).append(" warm 0 work 0 size 0;");
        }
        return s.toString();
    }

    static ClothWedding church(int lefts, int rights, String more) {
        return Check.church(people(lefts, rights) + more);
    }

    /** What a SUM of a QUESTION is for the only one there is. */
    static long value(String sum) {
        return Check.ask(church(1, 0, ""), "total " + sum);
    }

    /** The same CHURCH in another SPRING and ROUND. */
    static void at(ClothWedding x, int spring, int round) {
        int[] image = Check.image(x);
        image[0] = spring / 256;
        image[1] = spring % 256;
        image[2] = round;
        Check.tape(x, Check.checked(image));
        Check.due("on at " + spring + " " + round, x.on(), true);
    }

    static int see(ClothWedding x, int... rows) {
        Check.tape(x, rows);
        return x.see();
    }

    static boolean on(ClothWedding x, int... image) {
        Check.tape(x, image);
        return x.on();
    }

    static void due(String what, int[] got, int... want) {
        Check.due(what + ": how many", got.length, want.length);
        for (int i = 0; i < Math.min(got.length, want.length); i++) {
            Check.due(what + " " + i, got[i], want[i]);
        }
    }

    /** One more call, which is refused and counted (kind NONE: not counted), leaves an object like one that never had it. */
    static void stays(String what, Supplier<ClothWedding> made, ToLongFunction<ClothWedding> call, long due, int kind) {
        ClothWedding x = made.get();
        ClothWedding y = made.get();
        Check.due(what, call.applyAsLong(x), due);
        for (int k = 0; k < 6; k++) {
            Check.due(what + ": status " + k, x.status(k), y.status(k) + (k == kind ? 1 : 0));
        }
        alike(what, x, y);
    }

    static void alike(String what, ClothWedding x, ClothWedding y) {
        List<Long> one = answers(x);
        List<Long> other = answers(y);
        Check.due(what + ": answers", one.size(), other.size());
        for (int i = 0; i < Math.min(one.size(), other.size()); i++) {
            Check.due(what + ": answer " + i + " stays", one.get(i), other.get(i));
        }
    }

    /** All that four people can be asked with fewer than 512 calls, what is drawn and undone at last. */
    private static List<Long> answers(ClothWedding x) {
        List<Long> all = new ArrayList<>();
        for (int what = 0; what < 10; what++) {
            all.add((long) x.has(what));
        }
        for (int k = 0; k < 3; k++) {
            for (int what = 0; what < 4; what++) {
                all.add((long) x.kept(k, what));
            }
        }
        int people = Math.min(4, x.has(0) + x.has(1));
        for (int p = 0; p < people; p++) {
            one(all, x, p);
            for (int q = 0; q < people; q++) {
                all.add((long) x.pair(p, q, 2) * 2 + x.pair(p, q, 3));
            }
        }
        for (int what = 0; what < 4; what++) {
            all.add((long) x.change(3, what));
            all.add((long) x.tells(0, what));
        }
        for (int k = 0; k < 34; k++) {
            all.add((long) x.octet(k));
        }
        byImage(all, x);
        all.add((long) x.feed(1, 2, 3, 4, 5));
        all.add((long) x.chance(9));
        byImage(all, x);
        for (int i = 0; i < 3; i++) {
            all.add(x.undo() ? 1L : 0L);
            byImage(all, x);
        }
        return all;
    }

    private static void one(List<Long> all, ClothWedding x, int p) {
        for (int what = 0; what < 7; what++) {
            all.add((long) x.person(p, what));
        }
        all.add((long) x.letter(p, 1));
        all.add((long) x.when(p));
        all.add((long) x.match(p));
        all.add((long) x.steady(p));
        all.add((long) x.teach(p, 4));
        all.add((long) x.odds(p));
        all.add((long) x.sizes(p));
    }

    private static void byImage(List<Long> all, ClothWedding x) {
        int n = x.image();
        all.add((long) n);
        for (int k = 0; k < n && k < 34; k++) {
            all.add((long) x.octet(k));
        }
    }
}
