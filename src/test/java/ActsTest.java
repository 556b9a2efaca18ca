/** Promises 23 to 30, 35: rounds, chance, part, learn, like, swap, undo, seed, and what is refused. */
public final class ActsTest {
    private static final String TWO = "left a warm 0 work 0 size 0;right b warm 0 work 0 size 0;";
    private static final String FOUR = TWO + "left c warm 0 work 0 size 0;right d warm 0 work 0 size 0;";

    public static void main(String[] args) {
        rounds();
        chances();
        trembling();
        parting();
        bearings();
        places();
        undoing();
        undoneAll();
        seeds();
        refusals();
        Check.finish("ActsTest");
    }

    private static void rounds() {
        ClothWedding x = Check.church(TWO);
        Check.due("rounds 0", x.rounds(0), -1);
        Check.due("rounds -1", x.rounds(-1), -1);
        Check.due("rounds 101", x.rounds(101), -1);
        Check.due("refused", x.status(3), 3);
        Check.due("nothing done", x.has(9), 0);
        Check.due("rounds 3", x.rounds(3), 0);
        Check.due("rounds 1", x.rounds(1), 1);
        Check.due("rounds 100", x.rounds(100), 0);
        Check.due("each call is one act", x.has(9), 3);
        Check.due("spring", x.has(3), 34);
        Check.due("round", x.has(4), 2);
        Check.due("waited one spring", x.person(0, 4), 1);
        ClothWedding y = Check.church(FOUR + "lets not all;rounds 1;kin a b;kin c d;");
        Check.due("kin never", y.rounds(50), 0);
        Check.due("waited fifty", y.person(3, 4), 50);
        Check.due("swap", y.swap(0, 0, 1), true);
        Check.due("both at once", y.rounds(1), 2);
        Check.due("wed ones wait no more", y.person(0, 4), 50);
        Check.due("pairs", y.has(6), 2);
    }

    /** x = 1: 1103527590 / 64 mod 100 = 18; then 2524885223 mod 2^31 = 377401575 / 64 mod 2 = 1 .. */
    private static void chances() {
        ClothWedding x = Check.church(TWO + "lets not all;slip 19;");
        long seed = 1;
        seed = (1103515245L * seed + 12345) % (1L << 31);
        Check.due("the first draw", seed / 64 % 100, 18);
        Check.due("trembled", x.chance(1), 1);
        Check.due("so not wed", x.has(6), 0);
        ClothWedding y = Check.church(TWO + "lets not all;slip 18;");
        Check.due("not trembled", y.chance(1), 0);
        Check.due("so wed", y.has(6), 1);
        Check.due("one act", y.has(9), 1);
        Check.due("kept", y.has(7), 1);
        Check.due("chance 0", y.chance(0), -1);
        Check.due("chance 101", y.chance(101), -1);
        Check.due("refused", y.status(3), 2);
        Check.due("chance 100", y.chance(100), tremblings(seed, 18, 2, 100));
        Check.due("spring", y.has(3), 33);
        Check.due("round", y.has(4), 2);
        Check.due("still one act each", y.has(9), 2);
    }

    private static int tremblings(long from, int slip, int people, int rounds) {
        long x = from;
        int times = 0;
        for (int i = 0; i < rounds; i++) {
            x = (1103515245L * x + 12345) % (1L << 31);
            if (x / 64 % 100 < slip) {
                times++;
                x = (1103515245L * x + 12345) % (1L << 31);
            }
        }
        return people > 0 ? times : 0;
    }

    private static void trembling() {
        ClothWedding x = Check.church(TWO + "lets not all;slip 100;learns known+1;");
        Check.due("each ROUND", x.chance(5), 5);
        Check.due("nobody is wed", x.has(6), 0);
        Check.due("who trembles learns, too", x.pair(0, 1, 1), 5);
        ClothWedding y = Check.church("left a warm 0 work 0 size 0;slip 100;");
        Check.due("one who holds no hand, too", y.chance(7), 7);
        ClothWedding z = Check.church("slip 100;");
        Check.due("nobody to tremble", z.chance(7), 0);
        ClothWedding w = Check.church(TWO + "slip 0;lets not all;");
        Check.due("slip 0", w.chance(1), 0);
        Check.due("wed", w.has(6), 1);
        whoTrembles();
    }

    /** Of four, the one that is drawn lets go; the other two are wed. */
    private static void whoTrembles() {
        for (int seed = 0; seed < 40; seed++) {
            ClothWedding x = Check.church(FOUR + "slip 100;lets not all;");
            x.seed(seed);
            long s = (1103515245L * seed + 12345) % (1L << 31);
            s = (1103515245L * s + 12345) % (1L << 31);
            int one = (int) (s / 64 % 4);
            Check.due("one trembles", x.chance(1), 1);
            for (int p = 0; p < 4; p++) {
                Check.due("seed " + seed + " wed " + p, x.person(p, 3) >= 0, p % 2 != one % 2);
            }
        }
    }

    private static void parting() {
        ClothWedding x = Check.church(TWO + "rounds 1;lets spring<3;");
        Check.due("not wed yet", x.part(0), false);
        x.rounds(4);
        Check.due("waited", x.person(1, 4), 3);
        Check.due("nobody", x.part(2), false);
        Check.due("NONE", x.part(-1), false);
        Check.due("parted by the right one", x.part(1), true);
        Check.due("not wed", x.person(0, 3), -1);
        Check.due("not wed", x.person(1, 3), -1);
        Check.due("waited 0", x.person(0, 4), 0);
        Check.due("waited 0", x.person(1, 4), 0);
        Check.due("what was is kept", x.has(7), 1);
        Check.due("not twice", x.part(0), false);
        Check.due("refused", x.status(2), 4);
        Check.due("undo", x.undo(), true);
        Check.due("wed again", x.person(0, 3), 1);
        Check.due("waited again", x.person(0, 4), 3);
    }

    private static void bearings() {
        ClothWedding x = Check.church(FOUR);
        Check.due("learn", x.learn(0, 2, 9), true);
        Check.due("learnt", x.pair(0, 2, 1), 9);
        Check.due("not the other way", x.pair(2, 0, 1), 0);
        Check.due("learnt already", x.learn(0, 2, 9), false);
        Check.due("learn 0", x.learn(0, 3, 0), false);
        Check.due("learn 10", x.learn(0, 3, 10), false);
        Check.due("learn -1", x.learn(0, 3, -1), false);
        Check.due("one side", x.learn(0, 1, 1), false);
        Check.due("nobody", x.learn(4, 0, 1), false);
        Check.due("nobody", x.learn(0, -1, 1), false);
        Check.due("like", x.like(3, 1, 0), true);
        Check.due("liked", x.pair(3, 1, 0), 0);
        Check.due("not the other way", x.pair(1, 3, 0), 5);
        Check.due("liked already", x.like(3, 1, 0), false);
        Check.due("like 5", x.like(1, 3, 5), false);
        Check.due("like 10", x.like(1, 3, 10), false);
        Check.due("like -1", x.like(1, 3, -1), false);
        Check.due("one side", x.like(2, 3, 1), false);
        Check.due("nobody", x.like(0, 4, 1), false);
        Check.due("refused", x.status(2), 13);
        Check.due("acts", x.has(9), 2);
    }

    private static void places() {
        ClothWedding x = Check.church(FOUR + "right e warm 0 work 0 size 0;");
        Check.due("one place", x.swap(0, 1, 1), false);
        Check.due("no side", x.swap(2, 0, 1), false);
        Check.due("no side", x.swap(-1, 0, 1), false);
        Check.due("no place", x.swap(0, 0, 2), false);
        Check.due("no place", x.swap(0, -1, 1), false);
        Check.due("right", x.swap(1, 2, 0), true);
        Check.due("refused", x.status(2), 5);
        int[] due = {0, 1, 2, 1, 0};
        for (int p = 0; p < 5; p++) {
            Check.due("place of " + p, x.person(p, 5), due[p]);
        }
        Check.due("undo", x.undo(), true);
        Check.due("place again", x.person(4, 5), 2);
    }

    private static void undoing() {
        ClothWedding x = Check.church(FOUR);
        Check.due("nothing yet", x.undo(), false);
        for (int i = 0; i < 25; i++) {
            x.like(0, 2, i % 2 == 0 ? 1 : 2);
        }
        Check.due("twenty", x.has(9), 20);
        for (int i = 0; i < 20; i++) {
            Check.due("undo " + i, x.undo(), true);
        }
        Check.due("no more", x.undo(), false);
        Check.due("behind five acts", x.pair(0, 2, 0), 1);
        Check.due("refused", x.status(4), 2);
        Check.due("refused acts are none", x.swap(0, 0, 0), false);
        Check.due("none", x.has(9), 0);
    }

    /** Each kind of act is undone to the last byte, but for the seed. */
    private static void undoneAll() {
        ClothWedding x = Check.church(FOUR + "slip 40;rounds 2;");
        x.rounds(3);
        int[] image = Check.image(x);
        int kept = x.has(7);
        for (int kind = 0; kind < 5; kind++) {
            boolean done = kind == 0 ? x.rounds(17) >= 0 : kind == 1 ? x.chance(17) >= 0 : kind == 2 ? x.learn(1, 2, 8)
                : kind == 3 ? x.like(2, 1, 8) : x.swap(1, 0, 1);
            Check.due("done " + kind, done, true);
            Check.due("undone " + kind, x.undo(), true);
            int[] then = Check.image(x);
            for (int i = 0; i < image.length; i++) {
                Check.due("kind " + kind + " byte " + i, then[i], image[i]);
            }
            Check.due("kept " + kind, x.has(7), kept);
        }
        ClothWedding y = Check.church(TWO + "slip 50;");
        ClothWedding z = Check.church(TWO + "slip 50;");
        int first = y.chance(20);
        y.undo();
        int second = y.chance(20);
        Check.due("the seed goes on behind undo", first + second, z.chance(40));
    }

    private static void seeds() {
        ClothWedding x = Check.church(TWO + "slip 50;");
        ClothWedding y = Check.church(TWO + "slip 50;");
        Check.due("below 0", x.seed(-1), false);
        Check.due("least", x.seed(Integer.MIN_VALUE), false);
        Check.due("refused", x.status(5), 2);
        Check.due("it is 1 at first", y.seed(1), true);
        Check.due("the same", x.chance(30), y.chance(30));
        Check.due("0", x.seed(0), true);
        Check.due("greatest", y.seed(Integer.MAX_VALUE), true);
        Check.due("by 0", x.chance(100), tremblings(0, 50, 2, 100));
        Check.due("by the greatest", y.chance(100), tremblings(Integer.MAX_VALUE, 50, 2, 100));
        Check.due("no act", x.has(9), 2);
    }

    private static void refusals() {
        ClothWedding x = new ClothWedding();
        for (int i = 0; i < 81; i++) {
            x.feed(0, 0, 0, 0, 0);
        }
        x.end(-1);
        x.church();
        x.see();
        x.part(0);
        x.learn(0, 1, 1);
        x.like(0, 1, 1);
        x.swap(0, 0, 1);
        x.rounds(0);
        x.chance(0);
        x.undo();
        x.seed(-1);
        x.on();
        int[] due = {2, 2, 4, 2, 1, 2};
        for (int what = 0; what < 6; what++) {
            Check.due("status " + what, x.status(what), due[what]);
        }
        Check.due("status -1", x.status(-1), -1);
        Check.due("status 6", x.status(6), -1);
        x.church();
        Check.due("church() keeps them", x.status(2), 4);
    }
}
