/** Promises 14 to 16 at their bounds: a MATCH, STEADY pairs, who would RATHER. */
public final class LikingsBoundsTest {
    private static final int[] ODD = {Integer.MIN_VALUE, -1000, -2, 1000, Integer.MAX_VALUE};

    public static void main(String[] args) {
        nobody();
        oneOfTheLeft();
        leastAndMost();
        firstOfLikeOnes();
        kinAreNone();
        matchWhoeverIsWed();
        steadyNobody();
        steadyFirstOfLikeOnes();
        steadyTakes();
        steadyKin();
        ratherNoneToAll();
        ratherMore();
        ratherOthers();
        nothingChanges();
        Check.finish("LikingsBoundsTest");
    }

    private static void match(String what, ClothWedding x, int together, int... due) {
        Check.due(what + ": together", x.match(-1), together);
        for (int left = 0; left < due.length; left++) {
            Check.due(what + ": " + left, x.match(left), due[left]);
        }
    }

    private static void steady(String what, ClothWedding x, int... due) {
        for (int p = 0; p < due.length; p++) {
            Check.due(what + ": " + p, x.steady(p), due[p]);
        }
    }

    private static String likings(int lefts, int rights, int n) {
        StringBuilder s = new StringBuilder();
        for (int i = 0; i < lefts * rights; i++) {
            String l = "l" + (char) ('a' + i / rights);
            String r = "r" + (char) ('a' + i % rights);
            s.append("likes ").append(l).append(' ').append(r).append(' ').append(n).append(';');
            s.append("likes ").append(r).append(' ').append(l).append(' ').append(n).append(';');
        }
        return s.toString();
    }

    private static void nobody() {
        match("without PEOPLE", new ClothWedding(), 0, -1, -1);
        match("without a right", Bounds.church(6, 0, ""), 0, -1, -1, -1, -1, -1, -1, -1);
        match("without a left", Bounds.church(0, 6, ""), 0, -1, -1, -1, -1, -1, -1, -1);
    }

    /** "(person NONE), the number of whom one of the left has .. NONE when there is none such on the left" */
    private static void oneOfTheLeft() {
        ClothWedding x = Bounds.church(2, 3, "likes la rc 6;");
        match("two and three", x, 21, 4, 2, -1, -1, -1, -1);
        for (int odd : ODD) {
            Check.due("match " + odd, x.match(odd), -1);
            Check.due("steady " + odd, x.steady(odd), -1);
        }
        Check.due("steady NONE", x.steady(-1), -1);
        match("all six", Bounds.church(6, 6, ""), 60, 6, 7, 8, 9, 10, 11, -1);
        match("six and one", Bounds.church(6, 1, ""), 10, -1, -1, -1, -1, -1, 6, -1);
        match("one and six", Bounds.church(1, 6, ""), 10, 1, -1);
    }

    private static void leastAndMost() {
        match("all 0", Bounds.church(3, 3, likings(3, 3, 0)), 0, -1, -1, -1);
        match("all 9", Bounds.church(4, 4, likings(4, 4, 9)), 72, 4, 5, 6, 7);
        match("one more", Bounds.church(2, 2, likings(2, 2, 0) + "likes la rb 1;"), 1, 3, -1);
        match("by the other's liking alone", Bounds.church(2, 2, likings(2, 2, 0) + "likes ra lb 1;"), 1, -1, 2);
        match("together", Bounds.church(2, 2, likings(2, 2, 0) + "likes la ra 9;likes ra la 9;likes la rb 9;likes lb ra 9;likes rb la 1;"),
            19, 3, 2);
        match("not the most of the first", Bounds.church(2, 2, likings(2, 2, 0) + "likes la ra 9;likes la rb 8;likes lb ra 2;"), 10, 3, 2);
        match("the second has none", Bounds.church(3, 2, "likes la ra 9;likes ra la 9;likes lc rb 9;likes rb lc 9;"), 36, 3, -1, 4);
        match("the third has none", Bounds.church(4, 3, "likes la rb 9;likes lb ra 9;likes ld rc 9;likes rc ld 6;"), 43, 5, 4, -1, 6);
        ClothWedding six = Bounds.church(6, 6, "");
        for (int l = 0; l < 6; l++) {
            for (int r = 6; r < 12; r++) {
                six.like(l, r, 9);
                six.like(r, l, 9);
            }
        }
        match("six by 9", six, 108, 6, 7, 8, 9, 10, 11);
    }

    /** "of like ones the first (one of the left after the other none, then the right by numbers)" */
    private static void firstOfLikeOnes() {
        match("none ahead of one", Bounds.church(1, 1, likings(1, 1, 0)), 0, -1);
        match("none for the first", Bounds.church(2, 1, ""), 10, -1, 2);
        match("none for the first two", Bounds.church(3, 1, ""), 10, -1, -1, 3);
        match("the first of the right", Bounds.church(1, 3, ""), 10, 1);
        match("by numbers", Bounds.church(2, 3, ""), 20, 2, 3);
        match("by numbers, one can have nobody", Bounds.church(3, 2, ""), 20, -1, 3, 4);
        match("of like ones", Bounds.church(2, 2, likings(2, 2, 0) + "likes la rb 4;likes lb ra 4;likes la ra 4;likes lb rb 4;"), 8, 2, 3);
        match("none while it is as much", Bounds.church(2, 2, likings(2, 2, 0) + "likes lb ra 4;likes lb rb 4;"), 4, -1, 2);
    }

    private static void kinAreNone() {
        match("kin", Bounds.church(1, 1, "kin la ra;"), 0, -1);
        match("all kin", Bounds.church(2, 2, "kin la ra;kin la rb;kin lb ra;kin lb rb;"), 0, -1, -1);
        match("the others", Bounds.church(2, 2, "kin la ra;"), 20, 3, 2);
        match("one of two", Bounds.church(2, 2, "kin la ra;kin la rb;"), 10, -1, 2);
        match("kin though they like", Bounds.church(2, 2, "kin la ra;likes la ra 9;likes ra la 9;likes lb ra 0;likes ra lb 0;"), 10, -1, 3);
    }

    /** "(whoever is WED now)" */
    private static void matchWhoeverIsWed() {
        ClothWedding x = Bounds.church(2, 2, "lets liking<5;likes la rb 9;rounds 1;");
        x.rounds(1);
        Check.due("wed to the first", x.person(0, 3), 2);
        match("behind a wedding", x, 24, 3, 2);
        steady("behind a wedding", x, 3, 2, 1, 0, -1);
    }

    private static void steadyNobody() {
        steady("without PEOPLE", new ClothWedding(), -1, -1);
        steady("without a right", Bounds.church(6, 0, ""), -1, -1, -1, -1, -1, -1, -1);
        steady("without a left", Bounds.church(0, 6, ""), -1, -1, -1, -1, -1, -1, -1);
        steady("two", Bounds.church(1, 1, ""), 1, 0, -1);
        steady("liked by 0", Bounds.church(1, 1, likings(1, 1, 0)), 1, 0);
        steady("all six", Bounds.church(6, 6, ""), 6, 7, 8, 9, 10, 11, 0, 1, 2, 3, 4, 5, -1);
        steady("six and one", Bounds.church(6, 1, ""), 6, -1, -1, -1, -1, -1, 0, -1);
        steady("one and six", Bounds.church(1, 6, ""), 1, 0, -1, -1, -1, -1, -1, -1);
    }

    /** "the one among those not asked yet whom he likes most (of like ones the first)" */
    private static void steadyFirstOfLikeOnes() {
        steady("of like ones", Bounds.church(1, 3, ""), 1, 0, -1, -1);
        steady("the most", Bounds.church(1, 3, "likes la rc 6;"), 3, -1, -1, 0);
        steady("the first of the most", Bounds.church(1, 3, "likes la rc 6;likes la rb 6;"), 2, -1, 0, -1);
        steady("less than others", Bounds.church(1, 3, "likes la ra 4;"), 2, -1, 0, -1);
        steady("she has one whom she likes as much", Bounds.church(2, 2, ""), 2, 3, 0, 1);
    }

    /** "that one takes him, if she has nobody, or likes him more than whom she has, who has nobody then" */
    private static void steadyTakes() {
        steady("more", Bounds.church(2, 1, "likes ra lb 6;"), -1, 2, 1);
        steady("as much", Bounds.church(2, 1, "likes ra lb 5;"), 2, -1, 0);
        steady("less", Bounds.church(2, 1, "likes ra lb 4;"), 2, -1, 0);
        steady("who has nobody then asks on", Bounds.church(2, 2, "likes ra lb 6;"), 3, 2, 1, 0);
        steady("who is left asks all", Bounds.church(3, 2, "likes ra lb 6;likes ra lc 7;likes rb lb 6;likes rb lc 0;"), -1, 4, 3, 2, 1);
        // All ask by numbers and the later ones are liked more, so most are put out again and again.
        StringBuilder s = new StringBuilder();
        for (int i = 1; i < 6; i++) {
            for (int k = 0; k < 6; k++) {
                s.append("likes r").append((char) ('a' + k)).append(" l").append((char) ('a' + i)).append(' ').append(i + 4 - i / 5)
                    .append(';');
            }
        }
        ClothWedding x = Bounds.church(6, 6, s.toString());
        steady("put out", x, 10, 11, 9, 8, 6, 7, 4, 5, 3, 2, 0, 1);
    }

    private static void steadyKin() {
        steady("kin", Bounds.church(1, 1, "kin la ra;likes la ra 9;"), -1, -1);
        steady("kin of all", Bounds.church(2, 2, "kin la ra;kin la rb;"), -1, 2, 1, -1);
        steady("the other one", Bounds.church(1, 2, "kin la ra;likes la ra 9;"), 2, -1, 0);
        steady("all kin", Bounds.church(2, 2, "kin la ra;kin la rb;kin lb ra;kin lb rb;"), -1, -1, -1, -1);
    }

    /** "how many pairs (k NONE; what as you like), of the k-th .. by the left one, then the right one" */
    private static void ratherNoneToAll() {
        Check.due("without PEOPLE", new ClothWedding().rather(-1, 0), 0);
        Check.due("without a left", Bounds.church(0, 6, "").rather(-1, 0), 0);
        Check.due("without a right", Bounds.church(6, 0, "").rather(-1, 0), 0);
        ClothWedding x = Bounds.church(6, 6, "");
        Check.due("all", x.rather(-1, 0), 36);
        for (int k = 0; k < 36; k++) {
            Check.due("left of " + k, x.rather(k, 0), k / 6);
            Check.due("right of " + k, x.rather(k, 1), 6 + k % 6);
        }
        Check.due("none behind", x.rather(36, 0), -1);
        Check.due("none behind", x.rather(36, 1), -1);
        ClothWedding y = Bounds.church(1, 1, "kin la ra;");
        Check.due("kin", y.rather(-1, 0), 0);
        Check.due("none", y.rather(0, 0), -1);
        ClothWedding z = Bounds.church(2, 2, "kin la ra;kin lb rb;");
        Check.due("two of four", z.rather(-1, 0), 2);
        Bounds.due("which", new int[] {z.rather(0, 0), z.rather(0, 1), z.rather(1, 0), z.rather(1, 1), z.rather(2, 0)}, 0, 3, 1, 2, -1);
    }

    /** "not WED to one another, each of whom likes the other more than to whom he is WED (or is not WED)" */
    private static void ratherMore() {
        ClothWedding x = Bounds.church(2, 2, "lets not all;");
        x.rounds(1);
        Check.due("as much is not more", x.rather(-1, 0), 0);
        x.like(0, 3, 6);
        Check.due("one likes more", x.rather(-1, 0), 0);
        x.like(3, 0, 6);
        Check.due("both like more", x.rather(-1, 0), 1);
        Bounds.due("la rb", new int[] {x.rather(0, 0), x.rather(0, 1)}, 0, 3);
        x.like(3, 1, 6);
        Check.due("as much as him she has", x.rather(-1, 0), 0);
        x.like(3, 1, 5);
        x.like(0, 2, 6);
        Check.due("as much as her he has", x.rather(-1, 0), 0);
        x.like(0, 2, 9);
        x.like(2, 0, 9);
        Check.due("who are WED are not told", x.rather(-1, 0), 0);
        x.part(1);
        Check.due("lb rb have nobody", x.rather(-1, 0), 1);
        Bounds.due("lb rb", new int[] {x.rather(0, 0), x.rather(0, 1)}, 1, 3);
        x.like(0, 3, 0);
        x.like(0, 2, 0);
        Check.due("0 is not more than 0", x.rather(-1, 0), 1);
        x.like(0, 3, 1);
        Check.due("who is not WED would by any", x.rather(-1, 0), 2);
        ClothWedding y = Bounds.church(1, 1, likings(1, 1, 0));
        Check.due("liked by 0, not WED", y.rather(-1, 0), 1);
    }

    private static void ratherOthers() {
        ClothWedding x = Bounds.church(1, 1, "");
        for (int what : new int[] {-1, 2, Integer.MIN_VALUE, Integer.MAX_VALUE}) {
            Check.due("what as you like", x.rather(-1, what), 1);
            Check.due("what " + what, x.rather(0, what), -1);
        }
        for (int odd : ODD) {
            Check.due("rather " + odd, x.rather(odd, 0), -1);
        }
        Check.due("the last", x.rather(0, 1), 1);
        Check.due("beyond", x.rather(1, 1), -1);
    }

    private static ClothWedding lived() {
        ClothWedding x = Bounds.church(2, 2, "slip 30;kin la ra;likes la rb 9;likes rb la 8;");
        x.rounds(7);
        Bounds.see(x, 3, 0, 1);
        x.image();
        return x;
    }

    private static void nothingChanges() {
        Bounds.stays("match", LikingsBoundsTest::lived, x -> x.match(-1) > 0 ? 1 : 0, 1, -1);
        Bounds.stays("match of the right", LikingsBoundsTest::lived, x -> x.match(2), -1, -1);
        Bounds.stays("steady", LikingsBoundsTest::lived, x -> x.steady(0) >= -1 ? 1 : 0, 1, -1);
        Bounds.stays("steady of nobody", LikingsBoundsTest::lived, x -> x.steady(4), -1, -1);
        Bounds.stays("rather", LikingsBoundsTest::lived, x -> x.rather(-1, 7) >= 0 ? 1 : 0, 1, -1);
        Bounds.stays("rather beyond", LikingsBoundsTest::lived, x -> x.rather(16, 0), -1, -1);
    }
}
