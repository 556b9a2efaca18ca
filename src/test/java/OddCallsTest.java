import java.util.Random;

/** No call throws, whatever it is given: bytes and numbers by chance, for as many calls as an object is used. */
public final class OddCallsTest {
    private static final int[] EDGES = {Integer.MIN_VALUE, -1000, -2, -1, 0, 1, 2, 3, 5, 6, 7, 11, 12, 13, 30, 40, 41, 60, 61, 99, 100,
        101, 255, 999, Integer.MAX_VALUE};
    private static final String[] PIECES = {"left ", "right ", "a", "b", "c", "d", " warm 1 work 2 size 3;", "kin ", "likes ", "knows ",
        "rounds 2;", "feels ", "lets ", "learns ", "slip 50;", "known", "(", ")", "[", "]", "not ", "min(", ",", "9999", "*", "/", "+",
        "-", "<", ">", "=", " and ", " or ", "first ", "total ", "likes ", "number", " ", ";"};

    public static void main(String[] args) {
        for (int run = 0; run < 300; run++) {
            oneObject(new Random(run), run);
        }
        deepest();
        Check.finish("OddCallsTest");
    }

    private static void oneObject(Random r, int run) {
        ClothWedding x = new ClothWedding();
        try {
            for (int i = 0; i < 500; i++) {
                call(x, r);
            }
            Check.due("run " + run, 0, 0);
        } catch (RuntimeException | StackOverflowError e) {
            e.printStackTrace(System.out);
            Check.due("run " + run + " threw", 1, 0);
        }
    }

    private static int any(Random r) {
        return r.nextInt(3) == 0 ? EDGES[r.nextInt(EDGES.length)] : r.nextInt(14) - 1;
    }

    private static void write(ClothWedding x, Random r) {
        StringBuilder s = new StringBuilder();
        if (r.nextBoolean()) {
            s.append("left a warm 1 work 2 size 3;right b warm 4 work 5 size 6;left c warm 1 work 1 size 1;right d warm 1 work 1 size 1;");
        }
        int pieces = r.nextInt(30);
        for (int i = 0; i < pieces; i++) {
            s.append(PIECES[r.nextInt(PIECES.length)]);
        }
        Check.tape(x, s.toString());
    }

    private static void call(ClothWedding x, Random r) {
        int a = any(r);
        int b = any(r);
        int c = any(r);
        switch (r.nextInt(40)) {
            case 0: x.feed(r.nextInt(), r.nextInt(), r.nextInt(), r.nextInt(), r.nextInt()); break;
            case 1: x.end(a); break;
            case 2: write(x, r); x.church(); break;
            case 3: x.church(); break;
            case 4: x.fault(a); break;
            case 5: x.has(a); break;
            case 6: x.letter(a, b); break;
            case 7: x.person(a, b); break;
            case 8: x.pair(a, b, c); break;
            case 9: x.kept(a, b); break;
            case 10: x.later(a, b); break;
            case 11: x.when(a); break;
            case 12: x.pairs(a); break;
            case 13: x.match(a); break;
            case 14: x.steady(a); break;
            case 15: x.rather(a, b); break;
            case 16: x.teach(a, b); break;
            case 17: x.change(a, b); break;
            case 18: x.odds(a); break;
            case 19: Check.tape(x, r.nextInt(31), r.nextInt(4), r.nextInt(2)); x.see(); break;
            case 20: x.see(); break;
            case 21: x.sizes(a); break;
            case 22: x.tells(a, b); break;
            case 23: x.rounds(a); break;
            case 24: x.chance(a); break;
            case 25: x.part(a); break;
            case 26: x.learn(a, b, c); break;
            case 27: x.like(a, b, c); break;
            case 28: x.swap(a, b, c); break;
            case 29: x.undo(); break;
            case 30: x.seed(a); break;
            case 31: write(x, r); x.ask(); break;
            case 32: x.ask(); break;
            case 33: x.image(); break;
            case 34: x.octet(a); break;
            case 35: x.on(); break;
            case 36: image(x, r); break;
            default: x.status(a);
        }
    }

    private static void image(ClothWedding x, Random r) {
        int[] bytes = Check.image(x);
        bytes[r.nextInt(bytes.length)] = r.nextInt(256);
        Check.tape(x, Check.checked(bytes));
        x.on();
    }

    /** The longest and the deepest texts that the tape takes. */
    private static void deepest() {
        String deep = "lets not not not not [1+1*(1)<1+1*1 or 1=1 and 1+1*1>1+1*1];";
        Check.churchSound(deep, 1);
        Check.churchSound("feels " + "1+".repeat(790) + "1;", 1);
        Check.churchSound("feels 1" + " ".repeat(1590) + ";", 1);
        Check.churchFault("a".repeat(1600), 1, 0);
        Check.churchFault("left " + "a".repeat(1595), 1, 11);
        Check.churchFault("feels " + "9".repeat(1594), 1, 10);
        Check.churchFault(" ".repeat(1600).substring(1) + "x", 1, 1599);
        Check.churchSound(" ".repeat(1600), 0);
        ClothWedding x = Check.church("left a warm 1 work 1 size 1;right b warm 1 work 1 size 1;feels " + "1+".repeat(40) + "1;");
        Check.due("a long sum", x.pair(0, 1, 2), 41);
        StringBuilder s = new StringBuilder("total ");
        for (int i = 0; i < 6; i++) {
            s.append("1+2*max(1,");
        }
        s.append("1+2*3").append(")".repeat(6));
        Check.due("deep sums", Check.ask(x, s.toString()), 2 * 511);
    }
}
