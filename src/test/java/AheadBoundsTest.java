/** Promises 11 to 13 and 17 to 19 at their bounds: ROUNDS AHEAD, to TEACH, a CHANGE, ODDS. */
public final class AheadBoundsTest {
    private static final int[] ODD = {Integer.MIN_VALUE, -1000, -2, 1000, Integer.MAX_VALUE};

    public static void main(String[] args) {
        noneToSixty();
        wedInTheSixtieth();
        wedNow();
        notBeyondTheLastSpring();
        withoutDraws();
        nothingComesToPass();
        taughtForOneToForty();
        theFewestAndLeast();
        bitsOfThatSide();
        taughtAtTheEnd();
        changedForOneToForty();
        noneOfLikeOnes();
        theFirstOfLikeOnes();
        changedAtTheEnd();
        allRows();
        rowsBySlip();
        oddsAtTheEnd();
        Check.finish("AheadBoundsTest");
    }

    /** A church of two who are wed behind so many ROUNDS. */
    private static ClothWedding wedBehind(int rounds) {
        return Bounds.church(1, 1, "rounds 1;lets spring<" + (rounds - 1) + ";");
    }

    /** "later: behind n ROUNDS AHEAD (0 .. 60)", "pairs: (0 .. 60); NONE when n can't be" */
    private static void noneToSixty() {
        ClothWedding x = wedBehind(1);
        for (int n : new int[] {-1, 61, Integer.MIN_VALUE, Integer.MAX_VALUE}) {
            Check.due("later " + n, x.later(0, n), -1);
            Check.due("pairs " + n, x.pairs(n), -1);
        }
        for (int n : new int[] {0, 1, 59, 60}) {
            Check.due("later " + n, x.later(0, n), n == 0 ? -1 : 1);
            Check.due("later of the other " + n, x.later(1, n), n == 0 ? -1 : 0);
            Check.due("pairs " + n, x.pairs(n), n == 0 ? 0 : 1);
            Check.due("of nobody " + n, x.later(2, n), -1);
            Check.due("of NONE " + n, x.later(-1, n), -1);
        }
        for (int odd : ODD) {
            Check.due("later of " + odd, x.later(odd, 1), -1);
            Check.due("when of " + odd, x.when(odd), -1);
        }
        Check.due("when of nobody", x.when(2), -1);
        Check.due("when of NONE", x.when(-1), -1);
        ClothWedding y = Bounds.church(6, 6, "lets not all;rounds 1;");
        Check.due("six pairs", y.pairs(60), 6);
        Check.due("the last one", y.later(11, 1), 5);
        Check.due("the last one", y.when(11), 1);
    }

    /** "Behind how many ROUNDS AHEAD (0: now; 60 at most) one is WED" */
    private static void wedInTheSixtieth() {
        for (int n : new int[] {1, 2, 59, 60, 61}) {
            ClothWedding x = wedBehind(n);
            Check.due("when of " + n, x.when(0), n == 61 ? -1 : n);
            Check.due("when of the other of " + n, x.when(1), n == 61 ? -1 : n);
            Check.due("later 60 of " + n, x.later(0, 60), n == 61 ? -1 : 1);
            Check.due("later 59 of " + n, x.later(0, 59), n >= 60 ? -1 : 1);
            Check.due("pairs 60 of " + n, x.pairs(60), n == 61 ? 0 : 1);
            Check.due("pairs 59 of " + n, x.pairs(59), n >= 60 ? 0 : 1);
            x.rounds(1);
            Check.due("when one less of " + n, x.when(0), n - 1);
        }
    }

    private static void wedNow() {
        ClothWedding x = wedBehind(1);
        x.rounds(1);
        Check.due("when", x.when(0), 0);
        Check.due("later 0", x.later(0, 0), 1);
        Check.due("pairs 0", x.pairs(0), 1);
        Check.due("later 60", x.later(1, 60), 0);
        Check.due("later -1", x.later(0, -1), -1);
        Check.due("later 61", x.later(0, 61), -1);
        Check.due("pairs -1", x.pairs(-1), -1);
        Check.due("teach 0", x.teach(0, 0), -1);
        Check.due("teach 1", x.teach(0, 1), 0);
        Check.due("change 0", x.change(0, 3), -1);
        Check.due("change 1", x.change(1, 3), 1);
        x.part(0);
        Check.due("later 0", x.later(0, 0), -1);
        Check.due("when", x.when(0), 1);
        Check.due("pairs 0", x.pairs(0), 0);
        Check.due("pairs of nobody", new ClothWedding().pairs(0), 0);
    }

    /** "(60 at most, not beyond SPRING 999)" */
    private static void notBeyondTheLastSpring() {
        for (int told : new int[] {1, 2, 12}) {
            for (int left : new int[] {0, 1, 59, 60}) {
                ClothWedding x = Bounds.church(1, 1, "lets all;rounds " + told + ";");
                int ahead = 1000 * told - 1 - left;
                Bounds.at(x, ahead / told, ahead % told);
                for (int n : new int[] {0, left, left + 1, 60, 61}) {
                    boolean can = n <= Math.min(left, 60);
                    Check.due("pairs " + n + " of " + left, x.pairs(n), can ? 0 : -1);
                }
                Check.due("rounds " + (left + 1), x.rounds(left + 1), -1);
            }
        }
        ClothWedding y = Bounds.church(1, 1, "rounds 1;lets spring<998;");
        Bounds.at(y, 997, 0);
        Check.due("wed in SPRING 998", y.when(0), 2);
        Check.due("later 1", y.later(0, 1), -1);
        Check.due("later 2", y.later(0, 2), 1);
        Check.due("later 3", y.later(0, 3), -1);
        Check.due("pairs 2", y.pairs(2), 1);
        Check.due("pairs 3", y.pairs(3), -1);
        ClothWedding z = Bounds.church(1, 1, "rounds 1;lets spring<999;");
        Bounds.at(z, 997, 0);
        Check.due("no ROUND is behind SPRING 999", z.when(0), -1);
        Bounds.at(z, 999, 0);
        Check.due("none at all", z.when(0), -1);
        Check.due("pairs 0", z.pairs(0), 0);
        Check.due("pairs 1", z.pairs(1), -1);
        Check.due("later 0", z.later(0, 0), -1);
    }

    /** "AHEAD are ROUNDS as they come from now on without DRAWS" */
    private static void withoutDraws() {
        ClothWedding x = Bounds.church(1, 1, "slip 100;lets not all;");
        Check.due("when", x.when(0), 1);
        Check.due("later", x.later(0, 1), 1);
        Check.due("pairs", x.pairs(1), 1);
        Check.due("teach", x.teach(0, 1), 0);
        Check.due("change", x.change(1, 3), 1);
        Check.due("sizes", x.sizes(0), 1023);
        Check.due("by the seed never", x.odds(0), 0);
    }

    private static ClothWedding lived() {
        ClothWedding x = Bounds.church(2, 2, "slip 30;kin la ra;");
        x.rounds(7);
        Bounds.see(x, 3, 0, 1);
        x.image();
        return x;
    }

    private static void nothingComesToPass() {
        Bounds.stays("later", AheadBoundsTest::lived, x -> x.later(9, 60), -1, -1);
        Bounds.stays("later 60", AheadBoundsTest::lived, x -> x.later(0, 60) >= -1 ? 1 : 0, 1, -1);
        Bounds.stays("when", AheadBoundsTest::lived, x -> x.when(0) >= -1 ? 1 : 0, 1, -1);
        Bounds.stays("pairs 60", AheadBoundsTest::lived, x -> x.pairs(60) >= 0 ? 1 : 0, 1, -1);
        Bounds.stays("pairs 61", AheadBoundsTest::lived, x -> x.pairs(61), -1, -1);
        Bounds.stays("teach 41", AheadBoundsTest::lived, x -> x.teach(0, 41), -1, -1);
        Bounds.stays("teach 40", AheadBoundsTest::lived, x -> x.teach(0, 40) >= -1 ? 1 : 0, 1, -1);
        Bounds.stays("change 0", AheadBoundsTest::lived, x -> x.change(0, 0), -1, -1);
        Bounds.stays("change 40", AheadBoundsTest::lived, x -> x.change(40, 3) >= 0 ? 1 : 0, 1, -1);
        Bounds.stays("odds", AheadBoundsTest::lived, x -> x.odds(0) >= 0 ? 1 : 0, 1, -1);
        Bounds.stays("odds of nobody", AheadBoundsTest::lived, x -> x.odds(4), -1, -1);
    }

    /** "To TEACH one for n ROUNDS (1 .. 40)", "NONE when by none of these sets he is, there is none such, or n can't be" */
    private static void taughtForOneToForty() {
        for (int n : new int[] {1, 2, 39, 40, 41}) {
            ClothWedding x = Bounds.church(1, 1, "rounds 1;learns known;lets known<9 or spring<" + (n - 1) + ";knows ra la 9;");
            Check.due("ahead of " + n, x.teach(0, n - 1), -1);
            Check.due("behind " + n, x.teach(0, n), n == 41 ? -1 : 1);
            Check.due("of the other behind " + n, x.teach(1, Math.min(n, 40)), -1);
            Check.due("0", x.teach(0, 0), -1);
            Check.due("41", x.teach(0, 41), -1);
            Check.due("40", x.teach(0, 40), n == 41 ? -1 : 1);
            Check.due("nobody", x.teach(2, n), -1);
            Check.due("NONE", x.teach(-1, n), -1);
        }
        ClothWedding x = Bounds.church(1, 1, "lets not all;");
        for (int odd : ODD) {
            Check.due("teach for " + odd, x.teach(0, odd), -1);
            Check.due("teach " + odd, x.teach(odd, 1), -1);
        }
        Check.due("-1", x.teach(0, -1), -1);
        Check.due("0: nobody", x.teach(0, 1), 0);
        Check.due("nobody on the other side", Bounds.church(1, 0, "lets not all;").teach(0, 40), -1);
        Check.due("known by 9 is no more", Bounds.church(1, 1, "lets known<10;").teach(0, 40), -1);
    }

    /** "the fewest of the other side so that .. he is WED behind n ROUNDS; of like ones the least bits" */
    private static void theFewestAndLeast() {
        String lets = "learns known;lets known<9;rounds 6;";
        StringBuilder all = new StringBuilder();
        for (char c = 'a'; c <= 'f'; c++) {
            all.append("knows r").append(c).append(" la 9;");
        }
        for (int n = 1; n <= 7; n++) {
            Check.due("the first of those met in " + n, Bounds.church(1, 6, lets + all).teach(0, n), 1);
        }
        ClothWedding x = Bounds.church(1, 6, lets + "knows rf la 9;");
        Check.due("not yet", x.teach(0, 5), -1);
        Check.due("the last one alone", x.teach(0, 6), 32);
        ClothWedding y = Bounds.church(1, 6, lets + "knows rb la 9;knows re la 9;");
        Check.due("b", y.teach(0, 40), 2);
        y.rounds(2);
        Check.due("e sooner", y.teach(0, 3), 16);
        Check.due("b is less", y.teach(0, 6), 2);
        y.learn(0, 5, 9);
        Check.due("e alone, nobody to teach", y.teach(0, 3), 0);
        ClothWedding z = Bounds.church(1, 1, "lets not all;");
        z.rounds(1);
        Check.due("WED now: nobody", z.teach(0, 1), 0);
        Check.due("kin of all", Bounds.church(1, 1, "lets not all;kin la ra;").teach(0, 40), -1);
    }

    /** "(bit k for number k of that side, as told)" */
    private static void bitsOfThatSide() {
        String lets = "learns known;lets known<9;rounds 1;";
        for (int k = 0; k < 6; k++) {
            char c = (char) ('a' + k);
            ClothWedding x = Bounds.church(1, 6, lets + "knows r" + c + " la 9;");
            if (k > 0) {
                Check.due("not met", x.teach(0, 1), -1);
                x.swap(1, 0, k);
            }
            Check.due("bit of the right " + k, x.teach(0, 1), 1 << k);
            ClothWedding y = Bounds.church(6, 1, lets + "knows l" + c + " ra 9;");
            if (k > 0) {
                Check.due("not met", y.teach(6, 1), -1);
                y.swap(0, 0, k);
            }
            Check.due("bit of the left " + k, y.teach(6, 1), 1 << k);
        }
    }

    private static void taughtAtTheEnd() {
        ClothWedding x = Bounds.church(1, 1, "rounds 1;lets not all;");
        Bounds.at(x, 997, 0);
        Check.due("2", x.teach(0, 2), 0);
        Check.due("3", x.teach(0, 3), -1);
        Check.due("change 2", x.change(2, 3), 1);
        Check.due("change 3", x.change(3, 3), -1);
        Bounds.at(x, 999, 0);
        Check.due("none comes", x.teach(0, 1), -1);
        Check.due("none comes", x.change(1, 3), -1);
    }

    private static void change(ClothWedding x, int n, int... due) {
        int[] got = new int[6];
        int[] want = new int[6];
        for (int what = -1; what < 5; what++) {
            got[what + 1] = x.change(n, what);
            want[what + 1] = what >= 0 && what < 4 ? due[what] : -1;
        }
        Bounds.due("change " + n, got, want);
    }

    /** "A CHANGE for n ROUNDS (1 .. 40)", "NONE when n can't be, or for others" */
    private static void changedForOneToForty() {
        for (int n : new int[] {1, 2, 39, 40, 41}) {
            ClothWedding x = Bounds.church(1, 2, "rounds 1;kin la ra;lets spring<" + (n - 1) + ";");
            if (n > 1) {
                change(x, n - 1, -1, -1, -1, 0);
            }
            if (n < 41) {
                change(x, n, 1, 0, 1, 1);
                change(x, 40, 1, 0, 1, 1);
            }
            change(x, 0, -1, -1, -1, -1);
            change(x, 41, -1, -1, -1, -1);
        }
        ClothWedding x = Bounds.church(2, 2, "");
        for (int odd : ODD) {
            Check.due("change " + odd, x.change(odd, 3), -1);
            Check.due("what " + odd, x.change(1, odd), -1);
        }
        change(new ClothWedding(), 1, -1, -1, -1, 0);
        change(Bounds.church(1, 1, "lets not all;"), 40, -1, -1, -1, 1);
        change(Bounds.church(6, 0, "lets not all;"), 40, -1, -1, -1, 0);
    }

    /** "two places of a side's ORDER, or none .. of like ones none" */
    private static void noneOfLikeOnes() {
        change(Bounds.church(6, 6, "lets not all;"), 1, -1, -1, -1, 6);
        change(Bounds.church(6, 6, "lets all;"), 40, -1, -1, -1, 0);
        change(Bounds.church(2, 1, "lets not all;"), 1, -1, -1, -1, 1);
        ClothWedding x = Bounds.church(2, 1, "kin la ra;lets not all;rounds 1;");
        change(x, 1, 0, 0, 1, 1);
        x.swap(0, 0, 1);
        change(x, 1, -1, -1, -1, 1);
        x.rounds(1);
        change(x, 1, -1, -1, -1, 1);
    }

    /** "then the first (the left ahead of the right, by the less place, then by the other one)" */
    private static void theFirstOfLikeOnes() {
        change(Bounds.church(2, 2, "kin la ra;lets not all;rounds 1;"), 1, 0, 0, 1, 2);
        change(Bounds.church(1, 2, "kin la ra;lets not all;rounds 1;"), 1, 1, 0, 1, 1);
        change(Bounds.church(3, 3, "kin la ra;lets not all;rounds 1;"), 1, 0, 0, 1, 3);
        change(Bounds.church(3, 3, "kin la ra;kin la rb;lets not all;rounds 1;"), 1, 0, 0, 2, 3);
        change(Bounds.church(3, 3, "kin lb rb;kin lb ra;lets not all;rounds 1;"), 1, 0, 1, 2, 3);
        change(Bounds.church(3, 3, "kin la ra;kin lb ra;kin lc ra;lets not all;rounds 1;"), 1, -1, -1, -1, 2);
        change(Bounds.church(2, 3, "kin la ra;kin lb ra;lets not all;rounds 1;"), 1, 1, 0, 2, 2);
        change(Bounds.church(2, 3, "kin lb rb;kin lb ra;lets not all;rounds 1;"), 1, 1, 1, 2, 2);
        change(Bounds.church(6, 6, "kin le re;lets not all;rounds 1;"), 1, 0, 0, 4, 6);
        change(Bounds.church(6, 6, "kin le ra;kin le rb;kin le rc;kin le rd;kin le re;lets not all;rounds 1;"), 1, 0, 4, 5, 6);
        change(Bounds.church(5, 6, "kin le ra;kin le rb;kin le rc;kin le rd;kin le re;lets not all;rounds 1;"), 1, 1, 4, 5, 5);
        // More behind the first that has more: it is the most that counts.
        change(Bounds.church(3, 3, "kin la ra;kin lb rb;kin la rb;lets not all;rounds 1;"), 1, 0, 0, 1, 2);
        change(Bounds.church(3, 3, "kin la ra;kin lb rb;kin lb ra;kin lc rc;kin lc ra;kin la rc;lets not all;rounds 1;"), 1,
            0, 1, 2, 2);
        change(Bounds.church(3, 3, "kin la ra;kin lb rb;kin lb ra;lets not all;rounds 1;"), 1, 0, 0, 1, 2);
    }

    private static void changedAtTheEnd() {
        ClothWedding x = Bounds.church(2, 2, "kin la ra;kin lb rb;lets not all;rounds 1;");
        Bounds.at(x, 998, 0);
        change(x, 1, 0, 0, 1, 2);
        change(x, 2, -1, -1, -1, -1);
        Bounds.at(x, 999, 0);
        change(x, 1, -1, -1, -1, -1);
    }

    /** "ODDS of one of the PEOPLE; all rows for the one NONE. NONE when there is none such, without PEOPLE .." */
    private static void allRows() {
        Check.due("without PEOPLE", new ClothWedding().odds(-1), -1);
        Check.due("without PEOPLE", new ClothWedding().odds(0), -1);
        Check.due("one", Bounds.church(1, 0, "").odds(-1), 100);
        Check.due("one alone", Bounds.church(0, 1, "lets not all;").odds(0), 0);
        Check.due("twelve", Bounds.church(6, 6, "").odds(-1), 1200);
        ClothWedding x = Bounds.church(6, 6, "lets not all;");
        Check.due("the last one", x.odds(11), 1200);
        Check.due("beyond", x.odds(12), -1);
        Check.due("below NONE", x.odds(-2), -1);
        for (int odd : ODD) {
            Check.due("odds of " + odd, x.odds(odd), -1);
        }
    }

    /** "by how many of all rows of a number below 100, one of the PEOPLE he is WED behind the next ROUND by the seed" */
    private static void rowsBySlip() {
        for (int slip : new int[] {0, 1, 50, 99, 100}) {
            ClothWedding x = Bounds.church(2, 3, "lets not all;slip " + slip + ";");
            // Of five who may tremble, he and the one whose hand he holds let it go.
            Check.due("slip " + slip, x.odds(0), 500 - 2 * slip);
            Check.due("of the right, slip " + slip, x.odds(2), 500 - 2 * slip);
            Check.due("who holds no hand, slip " + slip, x.odds(4), 0);
            Check.due("all, slip " + slip, x.odds(-1), 500);
            x.rounds(1);
            Check.due("who is WED, slip " + slip, x.odds(0), 500);
            Check.due("who can't be, slip " + slip, x.odds(4), 0);
            Check.due("never, slip " + slip, Bounds.church(1, 1, "lets all;slip " + slip + ";").odds(0), 0);
            Check.due("kin, slip " + slip, Bounds.church(1, 1, "lets not all;kin la ra;slip " + slip + ";").odds(0), 0);
        }
    }

    private static void oddsAtTheEnd() {
        ClothWedding x = Bounds.church(1, 1, "lets not all;rounds 2;");
        Bounds.at(x, 999, 0);
        Check.due("one ROUND is left", x.odds(-1), 200);
        Check.due("one ROUND is left", x.odds(0), 200);
        Bounds.at(x, 999, 1);
        Check.due("none is left", x.odds(-1), -1);
        Check.due("none is left", x.odds(0), -1);
    }
}
