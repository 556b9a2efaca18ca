/** Promises 17, 18, 19: teach, change, odds. */
public final class TeachingTest {
    private static String left(String name) {
        return "left " + name + " warm 0 work 0 size 0;";
    }

    private static String right(String name) {
        return "right " + name + " warm 0 work 0 size 0;";
    }

    public static void main(String[] args) {
        lessons();
        changes();
        odds();
        Check.finish("TeachingTest");
    }

    private static void lessons() {
        ClothWedding x = Check.church(left("a") + right("b") + right("c") + "lets known<9;learns known;rounds 2;knows b a 9;knows c a 9;");
        Check.due("teach b", x.teach(0, 1), 1);
        Check.due("the least bits", x.teach(0, 2), 1);
        Check.due("nothing to teach b", x.teach(1, 1), -1);
        Check.due("n 0", x.teach(0, 0), -1);
        Check.due("n 41", x.teach(0, 41), -1);
        Check.due("n 40", x.teach(0, 40), 1);
        Check.due("nobody", x.teach(3, 1), -1);
        Check.due("NONE", x.teach(-1, 1), -1);
        x.swap(1, 0, 1);
        Check.due("teach c", x.teach(0, 1), 2);
        Check.due("still the least", x.teach(0, 2), 1);
        x.learn(0, 2, 9);
        Check.due("nobody to teach", x.teach(0, 1), 0);
        Check.due("c need nothing", x.teach(2, 1), 0);
        x.rounds(1);
        Check.due("wed already", x.teach(0, 1), 0);
        Check.due("b has nobody", x.teach(1, 9), -1);
        ClothWedding y = Check.church(left("a") + right("b") + right("c")
            + "feels known;lets feel<9;learns known;rounds 2;knows b a 9;knows c a 9;kin a b;");
        Check.due("kin are not wed", y.teach(0, 1), -1);
        Check.due("teach c", y.teach(0, 2), 2);
        sets();
    }

    /** To be wed to d she must be the last: both others must be gone. */
    private static void sets() {
        ClothWedding x = Check.church(left("a") + left("b") + right("c") + right("d")
            + "lets known<9;learns 9-known;rounds 1;knows c a 9;knows d a 9;knows c b 9;knows d b 9;");
        Check.due("one hand", x.teach(0, 1), 1);
        Check.due("one hand of the other", x.teach(1, 1), 2);
        Check.due("learnt by holding", x.teach(0, 3), 1);
        Check.due("of the right: none", x.teach(2, 1), -1);
        ClothWedding y = Check.church(left("a") + left("b") + right("c") + right("d")
            + "lets known<9;learns known;rounds 2;knows c b 9;knows b c 9;knows d a 9;");
        Check.due("d in the second", y.teach(0, 2), 2);
        Check.due("not in the first", y.teach(0, 1), -1);
        Check.due("c and b in the second", y.teach(1, 2), 0);
        Check.due("a for d", y.teach(3, 2), -1);
        y.learn(0, 3, 9);
        y.learn(3, 0, 0);
        Check.due("bits are of that side", y.teach(3, 2), 1);
        y.learn(1, 2, 0);
        Check.due("bit 0 for a, 1 for b", y.teach(1, 2), 1);
    }

    private static void due(ClothWedding x, int n, int... due) {
        for (int what = 0; what < 4; what++) {
            Check.due("change " + n + " " + what, x.change(n, what), due[what]);
        }
        Check.due("change " + n + " 4", x.change(n, 4), -1);
        Check.due("change " + n + " -1", x.change(n, -1), -1);
    }

    private static void changes() {
        ClothWedding x = Check.church(left("a") + left("b") + right("c") + "kin a c;lets not all;rounds 2;");
        due(x, 1, 0, 0, 1, 1);
        due(x, 2, -1, -1, -1, 1);
        due(x, 0, -1, -1, -1, -1);
        due(x, 41, -1, -1, -1, -1);
        due(x, 40, -1, -1, -1, 1);
        Check.due("nothing is done", x.person(0, 5), 0);
        ClothWedding y = Check.church(left("a") + right("b") + right("c") + right("d") + "kin a b;kin a c;lets not all;rounds 9;");
        due(y, 1, 1, 0, 2, 1);
        due(y, 2, 1, 0, 2, 1);
        due(y, 3, -1, -1, -1, 1);
        y.swap(1, 0, 2);
        due(y, 1, -1, -1, -1, 1);
        ClothWedding z = Check.church(left("a") + left("b") + right("c") + right("d") + "kin a c;kin b d;lets not all;rounds 9;");
        due(z, 1, 0, 0, 1, 2);
    }

    private static void odds() {
        ClothWedding x = Check.church(left("a") + left("c") + right("b") + "lets not all;slip 30;");
        Check.due("all rows", x.odds(-1), 300);
        Check.due("a", x.odds(0), 240);
        Check.due("c", x.odds(1), 0);
        Check.due("b", x.odds(2), 240);
        Check.due("nobody", x.odds(3), -1);
        Check.due("below NONE", x.odds(-2), -1);
        x.rounds(1);
        Check.due("wed already", x.odds(0), 300);
        Check.due("not wed", x.odds(1), 0);
        Check.due("no act", x.has(9), 1);
        ClothWedding y = Check.church(left("a") + right("b") + "lets not all;slip 100;");
        Check.due("always trembling", y.odds(0), 0);
        ClothWedding z = Check.church(left("a") + right("b") + "lets not all;");
        Check.due("never trembling", z.odds(0), 200);
        Check.due("nobody there", new ClothWedding().odds(-1), -1);
        Check.due("nobody there", Check.church("rounds 1;").odds(0), -1);
    }
}
