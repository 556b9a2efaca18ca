import java.util.function.Supplier;
import java.util.function.ToLongFunction;

/** Promises 23 to 30 and 35 at their bounds: acts that are taken, refused, undone, and the seed. */
public final class ActsBoundsTest {
    private static final int[] ODD = {Integer.MIN_VALUE, -1000, -1, 1000, Integer.MAX_VALUE};

    public static void main(String[] args) {
        oneToAHundred();
        howManyAreWed();
        aNumberBelowSlip();
        oneOfThePeople();
        withoutPeople();
        oneWhoHoldsNoHand();
        parted();
        knownByNoughtToNine();
        likedByNoughtToNine();
        twoPlaces();
        theLastTwenty();
        theRingBeginsAgain();
        oneActEach();
        theSeed();
        theSeedWraps();
        countedByKind();
        refusedLeaveAll();
        fiveHundredAndTwelveCalls();
        Check.finish("ActsBoundsTest");
    }

    private static void stays(String what, ToLongFunction<ClothWedding> call, int kind) {
        Bounds.stays(what, ActsBoundsTest::lived, call, kind == 3 ? -1 : 0, kind);
    }

    /** Four people, two of them WED, some acts, rows SEEN, an image written. */
    private static ClothWedding lived() {
        ClothWedding x = Bounds.church(2, 2, "slip 30;kin la ra;likes lb rb 7;knows rb lb 4;");
        x.rounds(7);
        x.seed(77);
        x.image();
        Bounds.see(x, 3, 0, 1);
        x.like(0, 3, 1);
        return x;
    }

    /** "n ROUNDS (1 .. 100)", "n ROUNDS by the seed (1 .. 100)", "NONE, refused (3), when it can't be" */
    private static void oneToAHundred() {
        ClothWedding x = Bounds.church(1, 1, "lets all;rounds 1;");
        for (int n : new int[] {0, -1, 101, Integer.MIN_VALUE, Integer.MAX_VALUE}) {
            Check.due("rounds " + n, x.rounds(n), -1);
            Check.due("chance " + n, x.chance(n), -1);
        }
        Check.due("refused", x.status(3), 10);
        Check.due("no ROUND", x.has(3), 0);
        Check.due("rounds 1", x.rounds(1), 0);
        Check.due("chance 1", x.chance(1), 0);
        Check.due("two ROUNDS", x.has(3), 2);
        Check.due("rounds 100", x.rounds(100), 0);
        Check.due("chance 100", x.chance(100), 0);
        Check.due("two hundred more", x.has(3), 202);
        Check.due("refused no more", x.status(3), 10);
        Check.due("four acts", x.has(9), 4);
    }

    private static void howManyAreWed() {
        ClothWedding x = Bounds.church(6, 6, "lets spring<2 or liking<5;rounds 6;likes lf ra 4;likes lf rb 4;likes lf rc 4;"
            + "likes lf rd 4;likes lf re 4;likes lf rf 4;");
        Check.due("none", x.rounds(12), 0);
        Check.due("five of six", x.rounds(100), 5);
        Check.due("none of those who are", x.rounds(1), 0);
        x.part(0);
        Check.due("one again", x.rounds(6), 1);
        ClothWedding y = Bounds.church(6, 6, "lets not all;");
        Check.due("six at once", y.rounds(1), 6);
        Check.due("nobody is left", y.rounds(100), 0);
    }

    private static int seedFor(int first) {
        for (int seed = 0; seed < 100000; seed++) {
            if (new Bounds.Draws(seed).next(100) == first) {
                return seed;
            }
        }
        return -1;
    }

    /** "begins with a DRAW of 100: below slip" */
    private static void aNumberBelowSlip() {
        for (int drawn : new int[] {0, 1, 50, 98, 99}) {
            for (int slip : new int[] {0, drawn, drawn + 1, 100}) {
                ClothWedding x = Bounds.church(1, 1, "lets not all;slip " + slip + ";");
                x.seed(seedFor(drawn));
                Check.due(drawn + " drawn, slip " + slip, x.chance(1), drawn < slip ? 1 : 0);
                Check.due("wed: " + drawn + " drawn, slip " + slip, x.has(6), drawn < slip ? 0 : 1);
            }
        }
    }

    /** "a DRAW of these: that one trembles in it: if he holds a hand, he LETS it go" */
    private static void oneOfThePeople() {
        boolean[] met = new boolean[12];
        for (int seed = 0; seed < 60; seed++) {
            Bounds.Draws draws = new Bounds.Draws(seed);
            draws.next(100);
            int one = draws.next(12);
            met[one] = true;
            ClothWedding x = Bounds.church(6, 6, "lets not all;slip 100;");
            x.seed(seed);
            Check.due("trembled", x.chance(1), 1);
            Check.due("five are wed", x.has(6), 5);
            for (int p = 0; p < 12; p++) {
                Check.due("seed " + seed + " one " + p, x.person(p, 3), p % 6 == one % 6 ? -1 : (p + 6) % 12);
            }
            Check.due("who trembles learns, too", x.pair(one, (one + 6) % 12, 1), 1);
        }
        for (int p = 0; p < 12; p++) {
            Check.due("trembling " + p, met[p], true);
        }
    }

    /** "below slip, if there are PEOPLE, a DRAW of these": without PEOPLE one DRAW a ROUND, with slip 0 too. */
    private static void withoutPeople() {
        for (int slip : new int[] {0, 100}) {
            ClothWedding x = new ClothWedding();
            Check.tape(x, "slip " + slip + ";");
            x.church();
            Check.due("nobody trembles", x.chance(5), 0);
            Check.tape(x, Bounds.people(1, 1) + "slip 50;lets all;");
            x.church();
            Bounds.Draws draws = new Bounds.Draws(1);
            for (int i = 0; i < 5; i++) {
                draws.next(100);
            }
            for (int i = 0; i < 30; i++) {
                boolean trembles = draws.next(100) < 50;
                if (trembles) {
                    draws.next(2);
                }
                Check.due("ROUND " + i + " behind five draws", x.chance(1), trembles ? 1 : 0);
            }
        }
    }

    /** "how many times one trembled (one who holds no hand, too)" */
    private static void oneWhoHoldsNoHand() {
        Check.due("the only one", Bounds.church(1, 0, "slip 100;").chance(100), 100);
        Check.due("on the right", Bounds.church(0, 1, "slip 100;").chance(1), 1);
        Check.due("one side", Bounds.church(0, 6, "slip 100;").chance(7), 7);
        ClothWedding x = Bounds.church(1, 1, "lets not all;slip 100;");
        x.rounds(1);
        Check.due("who are wed", x.chance(9), 9);
        Check.due("and stay so", x.has(6), 1);
    }

    /** "One who is WED and whom he is WED to are parted: true; false, refused (2)" */
    private static void parted() {
        ClothWedding x = Bounds.church(2, 2, "lets round<2;");
        Check.due("not wed yet", x.part(0), false);
        x.rounds(3);
        for (int p : new int[] {-1, 4, Integer.MIN_VALUE, Integer.MAX_VALUE}) {
            Check.due("part " + p, x.part(p), false);
        }
        Check.due("by the left one", x.part(0), true);
        Check.due("not twice", x.part(0), false);
        Check.due("nor by the other", x.part(2), false);
        Check.due("by the last one", x.part(3), true);
        Check.due("nor that", x.part(1), false);
        Check.due("refused", x.status(2), 8);
        Check.due("nobody is wed", x.has(6), 0);
        x.rounds(2);
        Check.due("not yet again", x.has(6), 0);
        Check.due("again", x.rounds(1), 2);
        ClothWedding y = Bounds.church(1, 1, "rounds 1;lets spring<3;");
        y.rounds(5);
        Check.due("waited", y.person(0, 4) * 10 + y.person(1, 4), 33);
        y.part(1);
        Check.due("0 SPRINGS", y.person(0, 4) * 10 + y.person(1, 4), 0);
        y.swap(0, 0, 0);
        y.undo();
        Check.due("wed and waited again", y.person(0, 4) * 10 + y.person(1, 4) + y.has(6), 34);
    }

    /** "One knows a hand of the other side by n (0 .. 9): true; false, refused (2), when he does already, n can't be .." */
    private static void knownByNoughtToNine() {
        ClothWedding x = Bounds.church(2, 3, "");
        Check.due("0 already", x.learn(0, 2, 0), false);
        Check.due("9", x.learn(0, 2, 9), true);
        Check.due("9 already", x.learn(0, 2, 9), false);
        Check.due("10", x.learn(0, 2, 10), false);
        Check.due("-1", x.learn(0, 2, -1), false);
        Check.due("9 stays", x.pair(0, 2, 1), 9);
        Check.due("0", x.learn(0, 2, 0), true);
        Check.due("0 now", x.pair(0, 2, 1), 0);
        Check.due("the last one", x.learn(4, 1, 1), true);
        Check.due("1 now", x.pair(4, 1, 1), 1);
        Check.due("refused", x.status(2), 4);
        others(x, y -> y.learn(0, 1, 3) ? 1 : 0, y -> y.learn(3, 2, 3) ? 1 : 0, y -> y.learn(0, 0, 3) ? 1 : 0);
        for (int odd : ODD) {
            others(x, y -> y.learn(odd, 2, 3) ? 1 : 0, y -> y.learn(0, odd, 3) ? 1 : 0, y -> y.learn(0, 2, odd) ? 1 : 0);
        }
        others(x, y -> y.learn(5, 1, 3) ? 1 : 0, y -> y.learn(1, 5, 3) ? 1 : 0, y -> y.learn(5, 5, 3) ? 1 : 0);
        Check.due("three acts", x.has(9), 3);
    }

    @SafeVarargs
    private static void others(ClothWedding x, ToLongFunction<ClothWedding>... calls) {
        for (ToLongFunction<ClothWedding> call : calls) {
            int refused = x.status(2);
            Check.due("one of " + calls.length + " that can't be", call.applyAsLong(x), 0);
            Check.due("is refused", x.status(2), refused + 1);
        }
    }

    private static void likedByNoughtToNine() {
        ClothWedding x = Bounds.church(2, 3, "");
        Check.due("5 already", x.like(0, 2, 5), false);
        Check.due("9", x.like(0, 2, 9), true);
        Check.due("9 already", x.like(0, 2, 9), false);
        Check.due("10", x.like(0, 2, 10), false);
        Check.due("-1", x.like(0, 2, -1), false);
        Check.due("9 stays", x.pair(0, 2, 0), 9);
        Check.due("0", x.like(0, 2, 0), true);
        Check.due("0 now", x.pair(0, 2, 0), 0);
        Check.due("the last one", x.like(4, 1, 6), true);
        Check.due("6 now", x.pair(4, 1, 0), 6);
        Check.due("5 is no more", x.like(4, 1, 5), true);
        Check.due("refused", x.status(2), 4);
        others(x, y -> y.like(0, 1, 3) ? 1 : 0, y -> y.like(3, 2, 3) ? 1 : 0, y -> y.like(0, 0, 3) ? 1 : 0);
        for (int odd : ODD) {
            others(x, y -> y.like(odd, 2, 3) ? 1 : 0, y -> y.like(0, odd, 3) ? 1 : 0, y -> y.like(0, 2, odd) ? 1 : 0);
        }
        others(x, y -> y.like(5, 1, 3) ? 1 : 0, y -> y.like(1, 5, 3) ? 1 : 0, y -> y.like(5, 5, 3) ? 1 : 0);
        Check.due("four acts", x.has(9), 4);
    }

    /** "Two places of a side's ORDER (0 left, 1 right) are exchanged: true; false, refused (2), when they are one .." */
    private static void twoPlaces() {
        ClothWedding x = Bounds.church(3, 6, "");
        Check.due("the last place of the left", x.swap(0, 2, 0), true);
        Check.due("beyond it", x.swap(0, 3, 0), false);
        Check.due("beyond it", x.swap(0, 0, 3), false);
        Check.due("the last place of the right", x.swap(1, 0, 5), true);
        Check.due("beyond it", x.swap(1, 6, 0), false);
        Check.due("beyond it", x.swap(1, 0, 6), false);
        Check.due("one", x.swap(1, 5, 5), false);
        Check.due("one", x.swap(0, 0, 0), false);
        Check.due("none that are one", x.swap(0, -1, -1), false);
        Check.due("none that are one", x.swap(0, 7, 7), false);
        Check.due("refused", x.status(2), 8);
        int[] due = {2, 1, 0, 5, 1, 2, 3, 4, 0};
        for (int p = 0; p < 9; p++) {
            Check.due("place of " + p, x.person(p, 5), due[p]);
        }
        for (int odd : ODD) {
            others(x, y -> y.swap(odd, 0, 1) ? 1 : 0, y -> y.swap(0, odd, 1) ? 1 : 0, y -> y.swap(0, 1, odd) ? 1 : 0);
        }
        others(x, y -> y.swap(2, 0, 1) ? 1 : 0, y -> y.swap(-1, 0, 1) ? 1 : 0);
        ClothWedding one = Bounds.church(1, 0, "");
        Check.due("one on the side", one.swap(0, 0, 1), false);
        Check.due("nobody on the side", one.swap(1, 0, 1), false);
        x.swap(0, 0, 2);
        Check.due("back again", x.person(0, 5), 0);
    }

    private static void manyActs(ClothWedding x, int acts) {
        for (int i = 0; i < acts; i++) {
            Check.due("act " + i, x.learn(0, 1, x.pair(0, 1, 1) % 9 + 1), true);
        }
    }

    private static int knownBehind(int acts) {
        return acts == 0 ? 0 : (acts - 1) % 9 + 1;
    }

    /** "The last 20 can be undone.", "true; false, refused (4), when none can be" */
    private static void theLastTwenty() {
        for (int acts : new int[] {0, 1, 19, 20, 21, 40, 41}) {
            ClothWedding x = Bounds.church(1, 1, "");
            manyActs(x, acts);
            int can = Math.min(20, acts);
            Check.due("can be undone of " + acts, x.has(9), can);
            for (int i = 1; i <= can; i++) {
                Check.due("undo " + i + " of " + acts, x.undo(), true);
                Check.due("left of " + acts, x.has(9), can - i);
                Check.due("known behind undo " + i + " of " + acts, x.pair(0, 1, 1), knownBehind(acts - i));
            }
            int known = x.pair(0, 1, 1);
            Check.due("none more of " + acts, x.undo(), false);
            Check.due("refused", x.status(4), 1);
            Check.due("none more of " + acts, x.undo(), false);
            Check.due("refused", x.status(4), 2);
            Check.due("nothing is undone", x.pair(0, 1, 1), known);
        }
    }

    private static void theRingBeginsAgain() {
        ClothWedding x = Bounds.church(1, 1, "");
        manyActs(x, 33);
        for (int i = 0; i < 20; i++) {
            x.undo();
        }
        Check.due("known by the thirteenth", x.pair(0, 1, 1), knownBehind(13));
        manyActs(x, 7);
        Check.due("known by seven more", x.pair(0, 1, 1), knownBehind(20));
        for (int i = 0; i < 7; i++) {
            Check.due("undo " + i, x.undo(), true);
        }
        Check.due("the thirteenth again", x.pair(0, 1, 1), knownBehind(13));
        Check.due("none more", x.undo(), false);
        manyActs(x, 20);
        for (int i = 0; i < 20; i++) {
            Check.due("undo again " + i, x.undo(), true);
        }
        Check.due("the thirteenth once more", x.pair(0, 1, 1), knownBehind(13));
        Check.due("none more", x.undo(), false);
    }

    /** What is an ACT, and what is none: asked, refused, SEEN, written, the seed. */
    private static void oneActEach() {
        ClothWedding x = Bounds.church(2, 2, "lets not all;");
        Check.due("rounds", x.rounds(100) >= 0 ? x.has(9) : -1, 1);
        Check.due("chance", x.chance(100) >= 0 ? x.has(9) : -1, 2);
        Check.due("part", x.part(0) ? x.has(9) : -1, 3);
        Check.due("learn", x.learn(0, 2, 7) ? x.has(9) : -1, 4);
        Check.due("like", x.like(0, 2, 7) ? x.has(9) : -1, 5);
        Check.due("swap", x.swap(0, 0, 1) ? x.has(9) : -1, 6);
        x.seed(3);
        x.image();
        Bounds.see(x, 1, 0, 1);
        Check.ask(x, "total warm");
        x.later(0, 60);
        x.pairs(60);
        x.when(0);
        x.match(0);
        x.steady(0);
        x.teach(0, 40);
        x.change(40, 0);
        x.odds(0);
        x.sizes(0);
        x.tells(0, 0);
        x.rounds(0);
        x.chance(101);
        x.part(9);
        x.learn(0, 2, 7);
        x.like(0, 2, 7);
        x.swap(0, 1, 1);
        x.feed(0, 0, 0, 0, 0);
        x.end(0);
        Check.due("none of these", x.has(9), 6);
        for (int i = 5; i >= 0; i--) {
            x.undo();
            Check.due("undone", x.has(9), i);
        }
        Check.due("as at first", x.has(3) + x.has(4) + x.has(6) + x.pair(0, 2, 1) + x.person(0, 5), 0);
    }

    private static void chances(String what, ClothWedding x, long seed) {
        Bounds.Draws draws = new Bounds.Draws(seed);
        for (int i = 0; i < 30; i++) {
            boolean trembles = draws.next(100) < 40;
            if (trembles) {
                draws.next(2);
            }
            Check.due(what + " " + i, x.chance(1), trembles ? 1 : 0);
        }
    }

    /** "The seed: true; false, refused (5), when it is below 0. (It is 1 at first.)" */
    private static void theSeed() {
        String text = Bounds.people(1, 1) + "lets all;slip 40;";
        chances("1 at first", Check.church(text), 1);
        for (int seed : new int[] {0, 1, 2, 12345, Integer.MAX_VALUE - 1, Integer.MAX_VALUE}) {
            ClothWedding x = Check.church(text);
            x.chance(10);
            Check.due("seed " + seed, x.seed(seed), true);
            chances("by " + seed, x, seed);
        }
        for (int seed : new int[] {-1, -2, Integer.MIN_VALUE, Integer.MIN_VALUE + 1}) {
            ClothWedding x = Check.church(text);
            x.seed(77);
            Check.due("seed " + seed, x.seed(seed), false);
            Check.due("refused", x.status(5), 1);
            chances("77 stays", x, 77);
        }
        ClothWedding x = Check.church(text);
        x.seed(5);
        Check.tape(x, text + "x");
        x.church();
        Check.tape(x, text);
        x.church();
        chances("5 stays behind church()", x, 5);
        ClothWedding y = Check.church(text);
        y.seed(6);
        Check.tape(y, Check.image(y));
        y.on();
        chances("6 stays behind on()", y, 6);
        ClothWedding z = Check.church(text);
        z.seed(1);
        int behind = z.chance(30);
        z.undo();
        z.seed(1);
        Check.due("30 again", z.chance(30), behind);
    }

    /** "x (the seed) becomes (1103515245 x + 12345) mod 2 to the 31; floor(x / 64) mod m" */
    private static void theSeedWraps() {
        ClothWedding x = Bounds.church(1, 1, "lets all;slip 50;");
        Bounds.Draws draws = new Bounds.Draws(Integer.MAX_VALUE);
        x.seed(Integer.MAX_VALUE);
        int times = 0;
        for (int i = 0; i < 10000; i++) {
            if (draws.next(100) < 50) {
                times++;
                draws.next(2);
            }
        }
        int got = 0;
        for (int i = 0; i < 100; i++) {
            if (i % 20 == 0) {
                Bounds.at(x, 0, 0);
            }
            got += x.chance(100);
        }
        Check.due("ten thousand ROUNDS by the seed", got, times);
    }

    /** "How many were refused: 0 feed(), end(); 1 church(), see(); .. NONE for others." */
    private static void countedByKind() {
        ClothWedding x = lived();
        for (int what : ODD) {
            Check.due("status " + what, x.status(what), -1);
        }
        Check.due("status 6", x.status(6), -1);
        for (int what = 0; what < 6; what++) {
            Check.due("none yet " + what, x.status(what), 0);
        }
        x.later(0, 61);
        x.pairs(-1);
        x.teach(0, 0);
        x.change(41, 0);
        x.odds(9);
        x.has(10);
        x.octet(-1);
        x.kept(40, 0);
        Check.ask(x, "nothing");
        for (int what = 0; what < 6; what++) {
            Check.due("NONE is not refused " + what, x.status(what), 0);
        }
        for (int i = 1; i <= 40; i++) {
            x.undo();
        }
        Check.due("two could be undone", x.status(4), 38);
        Check.tape(x, "");
        x.church();
        Check.due("they stay behind church()", x.status(4), 38);
    }

    private static void refusedLeaveAll() {
        for (int n : new int[] {0, -1, 101, Integer.MAX_VALUE, Integer.MIN_VALUE}) {
            stays("rounds " + n, x -> x.rounds(n), 3);
            stays("chance " + n, x -> x.chance(n), 3);
        }
        Check.due("la is not wed", lived().person(0, 3), -1);
        stays("part of one who is not wed", x -> x.part(0) ? 1 : 0, 2);
        stays("part 4", x -> x.part(4) ? 1 : 0, 2);
        stays("part -1", x -> x.part(-1) ? 1 : 0, 2);
        stays("learn what is known", x -> x.learn(0, 2, x.pair(0, 2, 1)) ? 1 : 0, 2);
        stays("learn 10", x -> x.learn(0, 2, 10) ? 1 : 0, 2);
        stays("learn -1", x -> x.learn(0, 2, -1) ? 1 : 0, 2);
        stays("learn of one side", x -> x.learn(0, 1, 3) ? 1 : 0, 2);
        stays("like what is liked", x -> x.like(1, 3, 7) ? 1 : 0, 2);
        stays("like 10", x -> x.like(1, 3, 10) ? 1 : 0, 2);
        stays("like of one side", x -> x.like(2, 3, 1) ? 1 : 0, 2);
        stays("swap one place", x -> x.swap(0, 1, 1) ? 1 : 0, 2);
        stays("swap beyond", x -> x.swap(1, 0, 2) ? 1 : 0, 2);
        stays("swap of no side", x -> x.swap(2, 0, 1) ? 1 : 0, 2);
        stays("seed -1", x -> x.seed(-1) ? 1 : 0, 5);
        Supplier<ClothWedding> undone = () -> {
            ClothWedding x = lived();
            x.undo();
            x.undo();
            return x;
        };
        Bounds.stays("undo of nothing", undone, x -> x.undo() ? 1 : 0, 0, 4);
        Supplier<ClothWedding> late = () -> {
            ClothWedding x = lived();
            Bounds.at(x, 999, 0);
            x.like(0, 3, 2);
            return x;
        };
        Bounds.stays("rounds beyond SPRING 999", late, x -> x.rounds(3), -1, 3);
        Bounds.stays("chance beyond SPRING 999", late, x -> x.chance(3), -1, 3);
    }

    /** "An object is used for at most 512 calls after it has been made": up to the last one all holds. */
    private static void fiveHundredAndTwelveCalls() {
        ClothWedding x = new ClothWedding();
        for (int i = 0; i < 511; i++) {
            x.undo();
        }
        Check.due("refused 511 times", x.status(4), 511);
        ClothWedding y = new ClothWedding();
        for (int i = 0; i < 511; i++) {
            y.rounds(1 + i % 3);
        }
        Check.due("SPRING by 511 calls", y.has(3), (511 / 3 * 6 + 1) / 3);
        ClothWedding z = Bounds.church(1, 1, "lets not all;rounds 1;");
        for (int i = 0; i < 250; i++) {
            z.rounds(1);
            z.part(0);
        }
        Check.due("kept by 250 weddings", z.kept(39, 0), 249);
        Check.due("the oldest told", z.kept(0, 0), 210);
        Check.due("can be undone", z.has(9), 20);
        ClothWedding w = new ClothWedding();
        for (int i = 0; i < 511; i++) {
            w.feed(i, i, i, i, i);
        }
        Check.due("no room 431 times", w.status(0), 431);
        ClothWedding v = new ClothWedding();
        for (int i = 0; i < 511; i++) {
            v.church();
        }
        Check.due("churches of nothing", v.status(1), 0);
        ClothWedding u = new ClothWedding();
        for (int i = 0; i < 511; i++) {
            u.ask();
        }
        Check.due("the last question's FAULT", u.fault(0), 1);
    }
}
