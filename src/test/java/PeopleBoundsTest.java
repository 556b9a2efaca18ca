/** Promises 6 to 10 and "Terms" II at their bounds: numbers, HANDS, ROUNDS and SPRINGS, who waits, what is KEPT. */
public final class PeopleBoundsTest {
    private static final int[] ODD = {Integer.MIN_VALUE, -2, -1, 1000, Integer.MAX_VALUE};

    public static void main(String[] args) {
        atFirst();
        countsOfOthers();
        lettersOfOthers();
        personsOfOthers();
        pairsOfOthers();
        keptOfOthers();
        numbers();
        handsOfAllSizes();
        handsOfWhoIsNotWed();
        roundsOfASpring();
        theLastRound();
        waited();
        whoWaits();
        hisOwnWaiting();
        kinAndWhoLetsGo();
        ahead();
        fortyAreTold();
        keptInTheirOrder();
        Check.finish("PeopleBoundsTest");
    }

    /** "It is SPRING 0, ROUND 0 at first, nobody is WED or has waited; the ORDER of each side is as they are told." */
    private static void atFirst() {
        ClothWedding x = Bounds.church(6, 6, "");
        int[] due = {6, 6, 0, 0, 0, 3, 0, 0, 0, 0};
        for (int what = 0; what < 10; what++) {
            Check.due("has " + what, x.has(what), due[what]);
        }
        for (int p = 0; p < 12; p++) {
            Check.due("wed", x.person(p, 3), -1);
            Check.due("waited", x.person(p, 4), 0);
            Check.due("place", x.person(p, 5), p % 6);
            Check.due("hand", x.person(p, 6), (p + 6) % 12);
        }
    }

    private static void countsOfOthers() {
        ClothWedding x = Bounds.church(2, 1, "kin la ra;rounds 12;");
        x.rounds(14);
        int[] due = {2, 1, 1, 1, 2, 12, 1, 1, 0, 1};
        for (int what = 0; what < 10; what++) {
            Check.due("has " + what, x.has(what), due[what]);
        }
        Check.due("has 10", x.has(10), -1);
        for (int what : ODD) {
            Check.due("has " + what, x.has(what), -1);
        }
    }

    /** "Letter k (0 .. 5) of the NAME of one of the PEOPLE: 1 .. 26; 0 behind it; NONE when there is none such." */
    private static void lettersOfOthers() {
        ClothWedding x = Check.church("right z warm 1 work 1 size 1;left azazaz warm 1 work 1 size 1;");
        int[] due = {-1, 1, 26, 1, 26, 1, 26, -1};
        for (int k = -1; k < 7; k++) {
            Check.due("letter " + k, x.letter(0, k), due[k + 1]);
            Check.due("letter " + k + " of z", x.letter(1, k), k < 0 || k > 5 ? -1 : k == 0 ? 26 : 0);
            Check.due("letter " + k + " of nobody", x.letter(2, k), -1);
        }
        for (int odd : ODD) {
            Check.due("letter of " + odd, x.letter(odd, 0), -1);
            Check.due("letter " + odd, x.letter(0, odd), -1);
        }
    }

    private static void personsOfOthers() {
        ClothWedding x = Check.church("left a warm 1 work 2 size 3;right b warm 4 work 5 size 6;");
        Bounds.due("a", all(x, 0), -1, 1, 2, 3, -1, 0, 0, 1, -1);
        Bounds.due("b", all(x, 1), -1, 4, 5, 6, -1, 0, 0, 0, -1);
        Bounds.due("nobody", all(x, 2), -1, -1, -1, -1, -1, -1, -1, -1, -1);
        Bounds.due("NONE", all(x, -1), -1, -1, -1, -1, -1, -1, -1, -1, -1);
        for (int odd : ODD) {
            Check.due("person " + odd, x.person(odd, 0), -1);
            Check.due("what " + odd, x.person(0, odd), -1);
        }
        x.rounds(4);
        Bounds.due("a wed", all(x, 0), -1, 1, 2, 3, 1, 1, 0, -1, -1);
        Bounds.due("b wed", all(x, 1), -1, 4, 5, 6, 0, 1, 0, -1, -1);
        ClothWedding y = Bounds.church(6, 6, "");
        Check.due("the last one", y.person(11, 0), 0);
        Check.due("beyond", y.person(12, 0), -1);
    }

    private static int[] all(ClothWedding x, int p) {
        int[] got = new int[9];
        for (int what = -1; what < 8; what++) {
            got[what + 1] = x.person(p, what);
        }
        return got;
    }

    /** "Of two of unlike sides .. NONE when there are none such, or for others." */
    private static void pairsOfOthers() {
        ClothWedding x = Bounds.church(2, 2, "kin la rb;likes la rb 9;");
        for (int one = -1; one < 5; one++) {
            for (int other = -1; other < 5; other++) {
                boolean two = Math.min(one, other) >= 0 && Math.max(one, other) < 4 && one / 2 != other / 2;
                for (int what = -1; what < 6; what++) {
                    boolean first = one == 0 && other == 3;
                    int[] due = {first ? 9 : 5, 0, first ? 9 : 5, first ? 0 : 1, one + other == 3 && one % 3 == 0 ? 1 : 0};
                    Check.due("pair " + one + " " + other + " " + what, x.pair(one, other, what),
                        two && what >= 0 && what < 5 ? due[what] : -1);
                }
            }
        }
        for (int odd : ODD) {
            Check.due("pair " + odd, x.pair(odd, 2, 0), -1);
            Check.due("pair " + odd, x.pair(0, odd, 0), -1);
            Check.due("pair what " + odd, x.pair(0, 2, odd), -1);
        }
    }

    /** "0 SPRING, 1 ROUND, 2 the left one, 3 the right one" */
    private static void keptOfOthers() {
        for (int lefts = 1; lefts <= 6; lefts++) {
            ClothWedding late = Bounds.church(lefts, 1, "lets round<11 or spring<9;rounds 12;");
            Check.due("wed in the last ROUND", late.rounds(100) + late.rounds(20), 1);
            Bounds.due("kept of " + lefts, new int[] {late.kept(0, 0), late.kept(0, 1), late.kept(0, 2), late.kept(0, 3)},
                9, 11, late.person(lefts, 3), lefts);
        }
        ClothWedding x = Bounds.church(1, 1, "lets not all;");
        Check.due("none yet", x.kept(0, 0), -1);
        x.rounds(1);
        for (int k = -1; k < 2; k++) {
            for (int what = -1; what < 5; what++) {
                boolean is = k == 0 && what >= 0 && what < 4;
                Check.due("kept " + k + " " + what, x.kept(k, what), is ? what == 3 ? 1 : 0 : -1);
            }
        }
        for (int odd : ODD) {
            Check.due("kept " + odd, x.kept(odd, 0), -1);
            Check.due("kept what " + odd, x.kept(0, odd), -1);
        }
    }

    /** "PEOPLE have numbers: first those of the left, as they are told, then those of the right." */
    private static void numbers() {
        ClothWedding x = Check.church("right d warm 4 work 0 size 0;left a warm 1 work 0 size 0;right e warm 5 work 0 size 0;"
            + "left b warm 2 work 0 size 0;left c warm 3 work 0 size 0;right f warm 6 work 0 size 0;");
        for (int p = 0; p < 6; p++) {
            Check.due("letter of " + p, x.letter(p, 0), p + 1);
            Check.due("warm of " + p, x.person(p, 0), p + 1);
            Check.due("place of " + p, x.person(p, 5), p % 3);
        }
        ClothWedding y = Check.church("right d warm 4 work 0 size 0;");
        Check.due("without a left", y.letter(0, 0), 4);
        Check.due("no hand", y.person(0, 6), -1);
    }

    /** "number k of the left holds the one of number k plus ROUND, modulo PLACES, of the right, if there is one" */
    private static void handsOfAllSizes() {
        for (int lefts = 0; lefts <= 6; lefts++) {
            for (int rights = 0; rights <= 6; rights++) {
                ClothWedding x = Bounds.church(lefts, rights, "lets all;rounds 12;");
                for (int round = 0; round < 13; round++) {
                    for (int k = 0; k < lefts; k++) {
                        int other = (k + round % 12) % Math.max(lefts, rights);
                        Check.due("left " + k + " of " + lefts + " " + rights + " in " + round, x.person(k, 6),
                            other < rights ? lefts + other : -1);
                    }
                    for (int k = 0; k < rights; k++) {
                        int places = Math.max(lefts, rights);
                        int other = (k + 12 * places - round % 12) % places;
                        Check.due("right " + k + " of " + lefts + " " + rights + " in " + round, x.person(lefts + k, 6),
                            other < lefts ? other : -1);
                    }
                    x.rounds(1);
                }
            }
        }
    }

    /** "those who are not WED, on each side in its ORDER, from 0 on; of the side where there are more, there are so many PLACES" */
    private static void handsOfWhoIsNotWed() {
        ClothWedding x = Bounds.church(3, 3, "lets liking<9;likes la rb 9;likes rb la 9;rounds 4;");
        Check.due("in ROUND 0", x.rounds(1), 0);
        Bounds.due("hands in ROUND 1", hands(x, 6), 4, 5, 3, 2, 0, 1);
        Check.due("in ROUND 1", x.rounds(1), 1);
        Bounds.due("two PLACES in ROUND 2", hands(x, 6), -1, 3, 5, 1, -1, 2);
        x.rounds(1);
        Bounds.due("in ROUND 3", hands(x, 6), -1, 5, 3, 2, -1, 1);
        x.swap(0, 0, 2);
        Bounds.due("lc lb la", hands(x, 6), -1, 3, 5, 1, -1, 2);
        x.swap(0, 1, 2);
        Bounds.due("lc la lb", hands(x, 6), -1, 3, 5, 1, -1, 2);
        x.swap(1, 2, 0);
        Bounds.due("rc rb ra", hands(x, 6), -1, 5, 3, 2, -1, 1);
        x.rounds(1);
        Bounds.due("in ROUND 0 again", hands(x, 6), -1, 3, 5, 1, -1, 2);
        x.part(4);
        Bounds.due("parted", hands(x, 6), 4, 3, 5, 1, 0, 2);
        ClothWedding y = Bounds.church(1, 2, "lets not all;");
        y.rounds(1);
        Bounds.due("nobody left on one side", hands(y, 3), -1, -1, -1);
        ClothWedding z = Bounds.church(2, 2, "lets not all;");
        z.rounds(1);
        Bounds.due("nobody left", hands(z, 4), -1, -1, -1, -1);
        Check.due("no PLACES", z.rounds(1), 0);
    }

    private static int[] hands(ClothWedding x, int people) {
        int[] got = new int[people];
        for (int p = 0; p < people; p++) {
            got[p] = x.person(p, 6);
        }
        return got;
    }

    /** "The ROUND is one more; if it is as many as told, it is ROUND 0, the SPRING is one more" */
    private static void roundsOfASpring() {
        for (int told = 1; told <= 12; told++) {
            ClothWedding x = Bounds.church(1, 1, "lets all;rounds " + told + ";");
            for (int n = 1; n <= 26; n++) {
                x.rounds(1);
                Check.due("SPRING behind " + n + " of " + told, x.has(3), n / told);
                Check.due("ROUND behind " + n + " of " + told, x.has(4), n % told);
                Check.due("waited behind " + n + " of " + told, x.person(0, 4), n / told);
            }
        }
    }

    /** "(No ROUND can be behind which it would be SPRING 1000.)" */
    private static void theLastRound() {
        for (int told : new int[] {1, 3, 12}) {
            ClothWedding x = Bounds.church(1, 1, "lets all;rounds " + told + ";");
            Bounds.at(x, 999, told - 1);
            Check.due("none behind the last", x.rounds(1), -1);
            Check.due("none by the seed", x.chance(1), -1);
            Check.due("SPRING", x.has(3), 999);
            Check.due("ROUND", x.has(4), told - 1);
            Bounds.at(x, 998, told - 1);
            Check.due("into the last SPRING", x.rounds(1), 0);
            Check.due("SPRING", x.has(3), 999);
            Check.due("ROUND", x.has(4), 0);
            Check.due("one more", x.rounds(1), told == 1 ? -1 : 0);
            Bounds.at(x, 998, told - 1);
            Check.due("one too many", x.rounds(told + 1), -1);
            Check.due("none of them came", x.has(3), 998);
            Check.due("to the last one", x.chance(told), 0);
            Check.due("SPRING", x.has(3), 999);
            Check.due("ROUND", x.has(4), told - 1);
        }
        ClothWedding y = Bounds.church(1, 1, "lets all;rounds 1;");
        Bounds.at(y, 899, 0);
        Check.due("a hundred to the last", y.rounds(100), 0);
        Bounds.at(y, 900, 0);
        Check.due("a hundred beyond", y.rounds(100), -1);
        Check.due("ninety-nine", y.rounds(99), 0);
    }

    /** "all who are not WED have waited one SPRING more (99 at most)" */
    private static void waited() {
        ClothWedding x = Bounds.church(1, 1, "lets all;rounds 1;");
        x.rounds(98);
        Check.due("98", x.person(0, 4), 98);
        x.rounds(1);
        Check.due("99", x.person(1, 4), 99);
        x.rounds(1);
        Check.due("99 at most", x.person(0, 4), 99);
        x.rounds(100);
        Check.due("99 at most", x.person(1, 4), 99);
        Check.due("SPRING", x.has(3), 200);
        ClothWedding y = Bounds.church(1, 1, "rounds 1;lets spring<150 or waited<99;");
        Check.due("held with 99", y.rounds(100), 0);
        y.rounds(50);
        Check.due("not behind 150", y.has(6), 0);
        Check.due("but in SPRING 150", y.rounds(1), 1);
    }

    private static void whoWaits() {
        ClothWedding x = Bounds.church(2, 1, "lets spring<1;rounds 2;");
        x.rounds(2);
        Bounds.due("all have waited", new int[] {x.person(0, 4), x.person(1, 4), x.person(2, 4)}, 1, 1, 1);
        Check.due("la is wed in ROUND 0", x.rounds(1), 1);
        x.rounds(1);
        Bounds.due("lb alone", new int[] {x.person(0, 4), x.person(1, 4), x.person(2, 4)}, 1, 2, 1);
        ClothWedding y = Bounds.church(2, 1, "lets round<1;rounds 2;");
        Check.due("lb is wed in the last ROUND", y.rounds(2), 1);
        Bounds.due("who is wed then doesn't wait", new int[] {y.person(0, 4), y.person(1, 4), y.person(2, 4)}, 1, 0, 0);
        y.part(1);
        y.rounds(1);
        Bounds.due("not within a SPRING", new int[] {y.person(0, 4), y.person(1, 4), y.person(2, 4)}, 1, 0, 0);
    }

    /** "how many SPRINGS he has waited": he who holds, not whose hand it is */
    private static void hisOwnWaiting() {
        ClothWedding x = Bounds.church(2, 2, "rounds 1;lets liking<9 and waited<4;likes la ra 9;likes ra la 9;");
        Check.due("la and ra at once", x.rounds(1), 1);
        Check.due("lb and rb by waiting", x.rounds(3), 0);
        Check.due("lb waited", x.person(1, 4), 4);
        x.part(0);
        Check.due("la waited", x.person(0, 4), 0);
        Check.due("la lets rb go", x.pair(0, 3, 3), 1);
        Check.due("rb holds la", x.pair(3, 0, 3), 0);
        Check.due("lb holds ra", x.pair(1, 2, 3), 0);
        Check.due("ra lets lb go", x.pair(2, 1, 3), 1);
        x.swap(0, 0, 1);
        Check.due("so none are wed", x.pairs(1), 0);
        Check.due("until la and ra have waited", x.when(0), 5);
    }

    /** "of two who hold one another's, if neither LETS it go, and they are no KIN, they are WED" */
    private static void kinAndWhoLetsGo() {
        String lets = "lets known<5;learns known;";
        Check.due("neither", Bounds.church(1, 1, lets + "knows la ra 5;knows ra la 5;").rounds(1), 1);
        Check.due("the left one", Bounds.church(1, 1, lets + "knows la ra 4;knows ra la 5;").rounds(1), 0);
        Check.due("the right one", Bounds.church(1, 1, lets + "knows la ra 5;knows ra la 4;").rounds(1), 0);
        Check.due("both", Bounds.church(1, 1, lets + "knows la ra 4;knows ra la 4;").rounds(1), 0);
        Check.due("kin", Bounds.church(1, 1, lets + "knows la ra 5;knows ra la 5;kin la ra;").rounds(1), 0);
        Check.due("all six", Bounds.church(6, 6, "lets not all;").rounds(1), 6);
        ClothWedding x = Bounds.church(1, 1, "lets not all;");
        Check.due("wed", x.rounds(1), 1);
        Check.due("who is WED is not again", x.rounds(100), 0);
        Check.due("and learns no more", x.pair(0, 1, 1), 1);
    }

    /** "by what is so ahead of it", "as the SUM of learns tells then, by what was so ahead of the ROUND" */
    private static void ahead() {
        ClothWedding x = Bounds.church(1, 1, "rounds 2;feels known*10+spring;lets round<1 or spring<1 or waited<1 or feel<1;"
            + "learns feel/10+spring+1;");
        Check.due("in the first SPRING", x.rounds(3), 0);
        Check.due("known by 1, 2, 4", x.pair(0, 1, 1), 4);
        Check.due("felt now", x.pair(0, 1, 2), 41);
        Check.due("in ROUND 1 of SPRING 1", x.rounds(1), 1);
        Check.due("learnt by SPRING 1", x.pair(0, 1, 1), 6);
        Check.due("kept by SPRING 1", x.kept(0, 0), 1);
        Check.due("kept by ROUND 1", x.kept(0, 1), 1);
        ClothWedding y = Bounds.church(1, 1, "rounds 1;lets known=0;");
        Check.due("not by what is learnt in it", y.rounds(1), 0);
        Check.due("but in the next", y.rounds(1), 1);
    }

    private static ClothWedding wedTimes(int times) {
        ClothWedding x = Bounds.church(1, 1, "lets not all;rounds 1;");
        for (int i = 0; i < times; i++) {
            x.part(0);
            x.rounds(1);
        }
        return x;
    }

    /** "KEPT is each two who are WED by ROUNDS ..; the last 40 are told." */
    private static void fortyAreTold() {
        for (int times : new int[] {1, 39, 40, 41, 100, 161}) {
            ClothWedding x = wedTimes(times);
            int told = Math.min(times, 40);
            Check.due(times + " times", x.has(7), told);
            Check.due("the oldest of " + times, x.kept(0, 0), times - told);
            Check.due("the newest of " + times, x.kept(told - 1, 0), times - 1);
            Check.due("none behind of " + times, x.kept(told, 0), -1);
            Check.due("none ahead of " + times, x.kept(-1, 0), -1);
        }
        ClothWedding x = wedTimes(100);
        for (int i = 1; i <= 10; i++) {
            x.undo();
            x.undo();
            Check.due("forty behind " + i, x.has(7), 40);
            Check.due("the oldest behind " + i, x.kept(0, 0), 60 - i);
            Check.due("the newest behind " + i, x.kept(39, 0), 99 - i);
        }
        x.part(0);
        x.rounds(3);
        Check.due("kept anew", x.kept(39, 0), 90);
        Check.due("the oldest", x.kept(0, 0), 51);
        ClothWedding y = wedTimes(41);
        for (int i = 0; i < 4; i++) {
            y.undo();
        }
        Check.due("thirty-nine again", y.has(7), 39);
        Check.due("from the first on", y.kept(0, 0), 0);
    }

    /** "SPRING, ROUND, number of the left one, of the right one, by these of the left" */
    private static void keptInTheirOrder() {
        ClothWedding x = Bounds.church(6, 6, "lets round<11;rounds 12;");
        for (int k = 0; k < 3; k++) {
            x.swap(0, k, 5 - k);
        }
        Check.due("all in ROUND 11", x.rounds(12), 6);
        for (int k = 0; k < 6; k++) {
            // The left one of number k stands on place 5 - k, and holds the right one there plus 11, modulo 6.
            Bounds.due("kept " + k, new int[] {x.kept(k, 0), x.kept(k, 1), x.kept(k, 2), x.kept(k, 3)},
                0, 11, k, 6 + (5 - k + 11) % 6);
        }
        for (int i = 0; i < 7; i++) {
            for (int p = 0; p < 6; p++) {
                x.part(p);
            }
            x.rounds(12);
        }
        Check.due("forty of forty-eight", x.has(7), 40);
        Check.due("two ROUNDS' are gone", x.kept(0, 0), 1);
        Check.due("the third's", x.kept(3, 0), 1);
        Check.due("SPRING of the fortieth", x.kept(39, 0), 7);
    }
}
