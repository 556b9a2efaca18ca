/** Promises 14, 15, 16: match, steady, rather. */
public final class LikingsTest {
    public static void main(String[] args) {
        matches();
        likeOnes();
        steadyPairs();
        ratherPairs();
        Check.finish("LikingsTest");
    }

    private static String people(int lefts, int rights) {
        StringBuilder s = new StringBuilder();
        for (int i = 0; i < lefts; i++) {
            s.append("left l").append((char) ('a' + i)).append(" warm 0 work 0 size 0;");
        }
        for (int i = 0; i < rights; i++) {
            s.append("right r").append((char) ('a' + i)).append(" warm 0 work 0 size 0;");
        }
        return s.toString();
    }

    private static void due(ClothWedding x, String what, int... due) {
        for (int i = 0; i < due.length; i++) {
            Check.due(what + " " + i, what.equals("match") ? x.match(i) : x.steady(i), due[i]);
        }
    }

    private static void matches() {
        ClothWedding x = Check.church(people(2, 2) + "likes la ra 9;likes ra la 9;likes la rb 8;likes rb la 8;"
            + "likes lb ra 7;likes ra lb 7;likes lb rb 0;likes rb lb 0;");
        Check.due("most together", x.match(-1), 30);
        due(x, "match", 3, 2, -1, -1, -1);
        ClothWedding y = Check.church(people(2, 2) + "kin la rb;likes la ra 9;likes ra la 9;likes la rb 9;likes rb la 9;");
        Check.due("without kin", y.match(-1), 28);
        due(y, "match", 2, 3);
        Check.due("not below NONE", y.match(-2), -1);
        ClothWedding z = Check.church(people(3, 0));
        Check.due("nobody on the right", z.match(-1), 0);
        due(z, "match", -1, -1, -1, -1);
        ClothWedding w = Check.church(people(0, 2));
        Check.due("nobody on the left", w.match(-1), 0);
        due(w, "match", -1, -1);
        ClothWedding v = Check.church(people(6, 6));
        Check.due("all six", v.match(-1), 60);
        due(v, "match", 6, 7, 8, 9, 10, 11, -1);
    }

    /** Of like ones the first: none ahead of one, then by numbers. */
    private static void likeOnes() {
        ClothWedding x = Check.church(people(2, 1));
        Check.due("ten", x.match(-1), 10);
        due(x, "match", -1, 2);
        ClothWedding y = Check.church(people(1, 2));
        due(y, "match", 1);
        ClothWedding z = Check.church(people(1, 1) + "likes la ra 0;likes ra la 0;");
        Check.due("nothing", z.match(-1), 0);
        due(z, "match", -1);
        ClothWedding w = Check.church(people(2, 2));
        w.rounds(4);
        due(w, "match", 2, 3);
    }

    private static void steadyPairs() {
        ClothWedding x = Check.church(people(3, 3) + "likes la ra 9;likes lb ra 9;likes lc ra 9;likes ra lb 8;likes ra lc 8;"
            + "likes la rc 7;");
        due(x, "steady", 5, 3, 4, 1, 2, 0, -1);
        ClothWedding y = Check.church(people(2, 1));
        due(y, "steady", 2, -1, 0);
        ClothWedding z = Check.church(people(2, 2) + "kin la ra;kin lb ra;likes rb lb 6;");
        due(z, "steady", -1, 3, -1, 1);
        Check.due("nobody", z.steady(4), -1);
        Check.due("NONE", z.steady(-1), -1);
        ClothWedding w = Check.church(people(1, 1) + "likes la ra 0;likes ra la 0;");
        due(w, "steady", 1, 0);
    }

    private static void ratherPairs() {
        ClothWedding x = Check.church(people(2, 2) + "lets not all;likes la rb 6;likes rb la 6;likes lb ra 5;");
        Check.due("all at first", x.rather(-1, 99), 4);
        x.rounds(1);
        Check.due("one pair", x.rather(-1, -5), 1);
        Check.due("its left one", x.rather(0, 0), 0);
        Check.due("its right one", x.rather(0, 1), 3);
        Check.due("what 2", x.rather(0, 2), -1);
        Check.due("what -1", x.rather(0, -1), -1);
        Check.due("beyond", x.rather(1, 0), -1);
        Check.due("below NONE", x.rather(-2, 0), -1);
        x.like(0, 3, 5);
        Check.due("no more than to whom he is wed", x.rather(-1, 0), 0);
        x.part(0);
        Check.due("parted", x.rather(-1, 0), 2);
        Check.due("the first", x.rather(0, 1), 2);
        Check.due("the second", x.rather(1, 1), 3);
        ClothWedding y = Check.church(people(1, 2) + "kin la ra;");
        Check.due("kin don't", y.rather(-1, 0), 1);
        Check.due("the other", y.rather(0, 1), 2);
    }
}
