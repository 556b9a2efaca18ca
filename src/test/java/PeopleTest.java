/** Promises 6, 7, 8, 9, 10: what is there, people, pairs, what is kept; and the formulas by what they answer. */
public final class PeopleTest {
    private static final String FOUR = "right dd warm 4 work 3 size 2;left a warm 1 work 2 size 3;right e warm 9 work 8 size 7;"
        + "left abcxyz warm 0 work 5 size 6;";

    public static void main(String[] args) {
        counts();
        letters();
        persons();
        hands();
        pairsOfTwo();
        formulas();
        lettingGo();
        keptOnes();
        Check.finish("PeopleTest");
    }

    private static void counts() {
        ClothWedding x = Check.church(FOUR + "left c warm 0 work 0 size 0;kin a e;kin dd a;rounds 7;rounds 5;");
        int[] due = {3, 2, 2, 0, 0, 5, 0, 0, 0, 0};
        for (int what = 0; what < 10; what++) {
            Check.due("has(" + what + ")", x.has(what), due[what]);
        }
        Check.due("has(-1)", x.has(-1), -1);
        Check.due("has(10)", x.has(10), -1);
        x.rounds(7);
        Check.due("SPRING", x.has(3), 1);
        Check.due("ROUND", x.has(4), 2);
        Check.due("ACTS", x.has(9), 1);
    }

    /** Numbers: first the left as told, then the right. */
    private static void letters() {
        ClothWedding x = Check.church(FOUR);
        int[][] due = {{1, 0, 0, 0, 0, 0}, {1, 2, 3, 24, 25, 26}, {4, 4, 0, 0, 0, 0}, {5, 0, 0, 0, 0, 0}};
        for (int p = 0; p < 4; p++) {
            for (int k = 0; k < 6; k++) {
                Check.due("letter " + p + " " + k, x.letter(p, k), due[p][k]);
            }
        }
        Check.due("letter beyond", x.letter(0, 6), -1);
        Check.due("letter below", x.letter(0, -1), -1);
        Check.due("nobody's letter", x.letter(4, 0), -1);
        Check.due("nobody's letter", x.letter(-1, 0), -1);
    }

    private static void persons() {
        ClothWedding x = Check.church(FOUR);
        int[][] due = {{1, 2, 3, -1, 0, 0, 2}, {0, 5, 6, -1, 0, 1, 3}, {4, 3, 2, -1, 0, 0, 0}, {9, 8, 7, -1, 0, 1, 1}};
        for (int p = 0; p < 4; p++) {
            for (int what = 0; what < 7; what++) {
                Check.due("person " + p + " " + what, x.person(p, what), due[p][what]);
            }
            Check.due("person " + p + " 7", x.person(p, 7), -1);
            Check.due("person " + p + " -1", x.person(p, -1), -1);
        }
        Check.due("nobody", x.person(4, 0), -1);
        Check.due("nobody", x.person(-1, 0), -1);
        x.swap(1, 0, 1);
        Check.due("place behind swap", x.person(2, 5), 1);
        Check.due("hand behind swap", x.person(2, 6), 1);
        Check.due("hand behind swap", x.person(0, 6), 3);
    }

    /** Three on the left, two on the right: three PLACES, one is left out each ROUND. */
    private static void hands() {
        ClothWedding x = Check.church("left a warm 0 work 0 size 0;left b warm 0 work 0 size 0;left c warm 0 work 0 size 0;"
            + "right d warm 0 work 0 size 0;right e warm 0 work 0 size 0;lets all;rounds 4;");
        int[][] due = {{3, 4, -1, 0, 1}, {4, -1, 3, 2, 0}, {-1, 3, 4, 1, 2}, {3, 4, -1, 0, 1}, {3, 4, -1, 0, 1}};
        for (int round = 0; round < 5; round++) {
            for (int p = 0; p < 5; p++) {
                Check.due("round " + round + " hand of " + p, x.person(p, 6), due[round][p]);
            }
            x.rounds(1);
        }
        ClothWedding y = Check.church("left a warm 0 work 0 size 0;right d warm 0 work 0 size 0;right e warm 0 work 0 size 0;lets not all;");
        Check.due("one is wed", y.rounds(1), 1);
        Check.due("wed to", y.person(0, 3), 1);
        Check.due("wed to", y.person(1, 3), 0);
        Check.due("not wed", y.person(2, 3), -1);
        for (int p = 0; p < 3; p++) {
            Check.due("no hand left", y.person(p, 6), -1);
        }
    }

    private static void pairsOfTwo() {
        ClothWedding x = Check.church(FOUR + "kin a e;likes a dd 7;likes dd a 2;knows a dd 4;likes a dd 8;knows e abcxyz 9;");
        int[][] due = {{8, 4, 12, 0, 0}, {5, 0, 5, 1, 1}, {2, 0, 2, 1, 0}, {5, 9, 14, 0, 0}};
        int[][] two = {{0, 2}, {0, 3}, {2, 0}, {3, 1}};
        for (int i = 0; i < two.length; i++) {
            for (int what = 0; what < 5; what++) {
                Check.due("pair " + i + " " + what, x.pair(two[i][0], two[i][1], what), due[i][what]);
            }
        }
        Check.due("kin the other way", x.pair(3, 0, 4), 1);
        Check.due("pair what 5", x.pair(0, 2, 5), -1);
        Check.due("pair what -1", x.pair(0, 2, -1), -1);
        Check.due("one side", x.pair(0, 1, 0), -1);
        Check.due("one side", x.pair(2, 3, 0), -1);
        Check.due("himself", x.pair(0, 0, 0), -1);
        Check.due("nobody", x.pair(0, 4, 0), -1);
        Check.due("nobody", x.pair(-1, 2, 0), -1);
        Check.due("nobody", x.pair(0, -1, 0), -1);
    }

    private static void feel(String sum, int due) {
        ClothWedding x = Check.church("left a warm 1 work 2 size 3;right b warm 4 work 5 size 6;likes a b 7;knows a b 8;feels " + sum + ";");
        Check.due("feels " + sum, x.pair(0, 1, 2), due);
    }

    private static void formulas() {
        feel("warm", 4);
        feel("work", 5);
        feel("size", 6);
        feel("liking", 7);
        feel("known", 8);
        feel("spring", 0);
        feel("99", 99);
        feel("100", 99);
        feel("0-1", 0);
        feel("10-4-3", 3);
        feel("10-(4-3)", 9);
        feel("1+2*3", 7);
        feel("(1+2)*3", 9);
        feel("7/2", 3);
        feel("20+(0-7)/2", 16);
        feel("20+(0-7)/(0-2)", 23);
        feel("20+7/(0-2)", 16);
        feel("20+7/0", 20);
        feel("7/2*2", 6);
        feel("7*2/2", 7);
        feel("100/7/2", 7);
        feel("min(3,4)*max(3,4)", 12);
        feel("9999*9999/5000/10", 20);
        feel("50+(0-9999)*9999/5000/10", 30);
        feel("9999*1000/9999-90", 10);
        feel("(9999*100+9999)/1000-950", 50);
        feel("((0-9999)*100-9999)/1000+1050", 50);
        feel("0007", 7);
        feel("min(max(1,2),min(9,8))", 2);
    }

    private static void lets(String test, boolean due) {
        ClothWedding x = Check.church("left a warm 1 work 2 size 3;right b warm 4 work 5 size 6;likes a b 7;knows a b 8;lets " + test + ";");
        Check.due("lets " + test, x.pair(0, 1, 3), due ? 1 : 0);
    }

    private static void lettingGo() {
        lets("all", true);
        lets("not all", false);
        lets("not not all", true);
        lets("feel=15", true);
        lets("feel<15", false);
        lets("feel>14", true);
        lets("feel<16", true);
        lets("feel>15", false);
        lets("known=8 and liking=7", true);
        lets("all or all and not all", true);
        lets("[all or all] and not all", false);
        lets("not all and all or all", true);
        lets("not [all and all] or not all", false);
        lets("not feel=15 or all", true);
        lets("not all or feel=15", true);
        lets("round=0 and spring=0 and waited=0", true);
        ClothWedding x = Check.church("left a warm 1 work 2 size 3;right b warm 4 work 5 size 6;rounds 2;"
            + "lets not [round=1 and spring=2 and waited=2];feels spring*10+known;learns feel;");
        Check.due("wed in the sixth", x.when(0), 6);
        x.rounds(5);
        Check.due("feel in spring 2", x.pair(0, 1, 2), 29);
        Check.due("known 9 at most", x.pair(0, 1, 1), 9);
        Check.due("waited 2", x.person(0, 4), 2);
        Check.due("would hold on", x.pair(0, 1, 3), 0);
    }

    private static void keptOnes() {
        ClothWedding x = Check.church("left a warm 0 work 0 size 0;left b warm 0 work 0 size 0;"
            + "right c warm 0 work 0 size 0;right d warm 0 work 0 size 0;lets not all;rounds 2;");
        x.swap(0, 0, 1);
        Check.due("two are wed", x.rounds(1), 2);
        int[][] due = {{0, 0, 0, 3}, {0, 0, 1, 2}};
        for (int k = 0; k < 2; k++) {
            for (int what = 0; what < 4; what++) {
                Check.due("kept " + k + " " + what, x.kept(k, what), due[k][what]);
            }
            Check.due("kept what 4", x.kept(k, 4), -1);
            Check.due("kept what -1", x.kept(k, -1), -1);
        }
        Check.due("kept beyond", x.kept(2, 0), -1);
        Check.due("kept below", x.kept(-1, 0), -1);
        for (int i = 0; i < 20; i++) {
            x.part(0);
            x.part(1);
            x.rounds(1);
        }
        Check.due("forty are told", x.has(7), 40);
        Check.due("the oldest told", x.kept(0, 1), 1);
        Check.due("the oldest told", x.kept(0, 0), 0);
        Check.due("the newest", x.kept(39, 0), 10);
        Check.due("the newest", x.kept(39, 1), 0);
        Check.due("beyond forty", x.kept(40, 0), -1);
        x.undo();
        Check.due("forty behind undo", x.has(7), 40);
        Check.due("the newest behind undo", x.kept(39, 0), 9);
        Check.due("the oldest behind undo", x.kept(0, 0), 0);
        Check.due("the oldest behind undo", x.kept(0, 1), 0);
        Check.due("parting keeps it", x.part(0), false);
    }
}
