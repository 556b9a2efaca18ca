/** Promises 11, 12, 13: later, when, pairs. */
public final class AheadTest {
    private static final String TWO = "left a warm 0 work 0 size 0;right b warm 0 work 0 size 0;";

    public static void main(String[] args) {
        learning();
        lateOnes();
        beyondTheLastSpring();
        Check.finish("AheadTest");
    }

    /** A hand is known by one more each ROUND, and held when it feels 8. */
    private static void learning() {
        ClothWedding x = Check.church(TWO + "rounds 3;");
        Check.due("later 3", x.later(0, 3), -1);
        Check.due("later 4", x.later(0, 4), 1);
        Check.due("later 4 of the other", x.later(1, 4), 0);
        Check.due("later 60", x.later(0, 60), 1);
        Check.due("later 61", x.later(0, 61), -1);
        Check.due("later -1", x.later(0, -1), -1);
        Check.due("later of nobody", x.later(2, 4), -1);
        Check.due("later of NONE", x.later(-1, 4), -1);
        Check.due("when", x.when(0), 4);
        Check.due("when of nobody", x.when(2), -1);
        Check.due("pairs 0", x.pairs(0), 0);
        Check.due("pairs 3", x.pairs(3), 0);
        Check.due("pairs 4", x.pairs(4), 1);
        Check.due("pairs 60", x.pairs(60), 1);
        Check.due("pairs 61", x.pairs(61), -1);
        Check.due("pairs -1", x.pairs(-1), -1);
        Check.due("nothing is done", x.has(4) + x.has(3) + x.has(6) + x.has(9), 0);
        Check.due("nothing is learnt", x.pair(0, 1, 1), 0);
        x.rounds(4);
        Check.due("when now", x.when(0), 0);
        Check.due("later 0", x.later(0, 0), 1);
        Check.due("pairs 0", x.pairs(0), 1);
    }

    private static void lateOnes() {
        ClothWedding x = Check.church(TWO + "rounds 1;lets spring<59;");
        Check.due("wed in the sixtieth", x.when(1), 60);
        Check.due("pairs 59", x.pairs(59), 0);
        Check.due("pairs 60", x.pairs(60), 1);
        ClothWedding y = Check.church(TWO + "rounds 1;lets spring<60;");
        Check.due("beyond sixty", y.when(1), -1);
        ClothWedding z = Check.church(TWO + "kin a b;lets not all;");
        Check.due("kin are not wed", z.when(0), -1);
        z.rounds(1);
        Check.due("but learn", z.pair(0, 1, 1), 1);
        ClothWedding w = Check.church(TWO + "lets all;learns 5-known*3;rounds 1;");
        w.rounds(1);
        Check.due("who lets go learns", w.pair(0, 1, 1), 5);
        w.rounds(1);
        Check.due("0 at least", w.pair(1, 0, 1), 0);
        w.rounds(97);
        Check.due("waited 99", w.person(0, 4), 99);
        w.rounds(5);
        Check.due("waited 99 at most", w.person(0, 4), 99);
    }

    private static void beyondTheLastSpring() {
        ClothWedding x = Check.church(TWO + "rounds 4;lets spring<999 or round<2;");
        int[] image = Check.image(x);
        image[0] = 999 / 256;
        image[1] = 999 % 256;
        image[2] = 0;
        Check.tape(x, Check.checked(image));
        Check.due("on", x.on(), true);
        Check.due("three come", x.pairs(3), 1);
        Check.due("four don't", x.pairs(4), -1);
        Check.due("later 3", x.later(0, 3), 1);
        Check.due("later 4", x.later(0, 4), -1);
        Check.due("when", x.when(0), 3);
        Check.due("teach 3", x.teach(0, 3), 0);
        Check.due("teach 4", x.teach(0, 4), -1);
        Check.due("change 3", x.change(3, 3), 1);
        Check.due("change 4", x.change(4, 3), -1);
        Check.due("rounds 4", x.rounds(4), -1);
        Check.due("chance 4", x.chance(4), -1);
        Check.due("refused", x.status(3), 2);
        Check.due("all stays", x.has(4), 0);
        Check.due("odds", x.odds(-1), 200);
        Check.due("rounds 3", x.rounds(3), 1);
        Check.due("spring", x.has(3), 999);
        Check.due("round", x.has(4), 3);
        Check.due("no odds", x.odds(-1), -1);
        Check.due("no odds", x.odds(0), -1);
        Check.due("pairs 0", x.pairs(0), 1);
        Check.due("pairs 1", x.pairs(1), -1);
        Check.due("when now", x.when(0), 0);
        Check.due("rounds 1", x.rounds(1), -1);
        x.part(0);
        Check.due("never", x.when(0), -1);
        Check.due("tells nothing", x.tells(0, 0), -1);
        Check.due("all sizes", x.sizes(0), 1023);
        Check.tape(x, 1, 0, 0);
        x.see();
        Check.due("no size", x.sizes(0), 0);
        Check.tape(x, 0, 0, 0);
        x.see();
        Check.due("all sizes by none ahead", x.sizes(0), 1023);
    }
}
