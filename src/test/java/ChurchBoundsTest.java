import java.util.function.ToLongFunction;

/** Promises 4, 5 and what "Terms" I says, at their bounds: how many STATEMENTS, numbers, NAMES, and each FAULT. */
public final class ChurchBoundsTest {
    private static final String A = "left a warm 1 work 1 size 1;";
    private static final String B = "right b warm 1 work 1 size 1;";
    private static final String AB = A + B;

    public static void main(String[] args) {
        sixtyStatements();
        sixOnEachSide();
        hands();
        kin();
        likingsAndKnowing();
        rounds();
        slip();
        oneOfEachFormula();
        namesOfOneToSix();
        lettersAlone();
        ownWords();
        unlikeNames();
        toldAhead();
        blanks();
        besides();
        tooSoon();
        theFirstAlongTheText();
        fullTape();
        asAtFirst();
        refusedLeavesAll();
        behindQuestions();
        Check.finish("ChurchBoundsTest");
    }

    private static ClothWedding people(int lefts, int rights, String more) {
        return Bounds.church(lefts, rights, more);
    }

    /** "{ STATEMENT ; } (60 at most)", "5 .. a 61st STATEMENT (whatever stands there), at its first byte" */
    private static void sixtyStatements() {
        Check.churchSound("", 0);
        Check.churchSound("slip 1;", 1);
        String most = "slip 1;".repeat(60);
        Check.churchSound(most, 60);
        Check.churchSound(most + "\n ", 60);
        Check.churchSound("slip 1;".repeat(59), 59);
        for (String one : new String[] {"slip 1;", "x", ";", "left kin", "rounds 99;", "feels;", "7", "#", "\u00e9"}) {
            Check.churchFault(most + one, 5, 420);
            Check.churchFault(most + "  \n" + one, 5, 423);
        }
        Check.churchFault("slip 1;".repeat(59) + "x", 1, 413);
        Check.churchFault("slip 1;".repeat(59) + "slip 1", 1, 419);
        Check.churchFault("slip 1;".repeat(61) + "x", 5, 420);
    }

    /** "6 on each side", "5 one too many of a kind .. at its first byte" */
    private static void sixOnEachSide() {
        for (int side = 0; side < 2; side++) {
            String six = side == 0 ? Bounds.people(6, 0) : Bounds.people(0, 6);
            String word = side == 0 ? "left" : "right";
            Check.due(word, Check.church(six).has(side), 6);
            Check.churchFault(six + word + " x warm 1 work 1 size 1;", 5, six.length());
            Check.churchFault(six + "\n" + word, 5, six.length() + 1);
            Check.churchFault(six + "  " + word + " la", 5, six.length() + 2);
            Check.churchFault(six + word + "s", 1, six.length());
            Check.churchSound(six + (side == 0 ? B : A), 7);
        }
        ClothWedding x = people(6, 6, "");
        Check.due("twelve", x.has(0) * 10 + x.has(1), 66);
        Check.due("the last one", x.letter(11, 1), 6);
        Check.due("nobody", x.letter(12, 0), -1);
        String both = Bounds.people(6, 6);
        Check.churchFault(both + "left", 5, both.length());
        Check.churchFault(both + "right", 5, both.length());
        ClothWedding y = people(6, 0, "");
        Check.due("nobody on the right", y.has(1), 0);
        ClothWedding z = people(0, 6, "");
        Check.due("nobody on the left", z.has(0), 0);
        Check.due("the first of the right", z.letter(0, 0), 18);
    }

    /** "left NAME warm N work N size N .. (0 .. 9 each ..)", "2 a number that can't be, at it" */
    private static void hands() {
        ClothWedding x = Check.church("left a warm 0 work 9 size 0;right b warm 9 work 0 size 9;");
        for (int what = 0; what < 3; what++) {
            Check.due("hand of a " + what, x.person(0, what), what == 1 ? 9 : 0);
            Check.due("hand of b " + what, x.person(1, what), what == 1 ? 0 : 9);
        }
        for (String word : new String[] {"left", "right"}) {
            int at = word.length() + 8;
            Check.churchFault(word + " a warm 10 work 1 size 1;", 2, at);
            Check.churchFault(word + " a warm 9 work 10 size 1;", 2, at + 7);
            Check.churchFault(word + " a warm 9 work 9 size 10;", 2, at + 14);
            Check.churchFault(word + " a warm 9 work 9 size 9999;", 2, at + 14);
            Check.churchFault(word + " a warm 9 work 9 size -1;", 1, at + 14);
            Check.churchSound(word + " a warm 0009 work 0000 size 9;", 1);
            Check.churchFault(word + " a warm 00009 work 0 size 9;", 1, at + 4);
            Check.churchFault(word + " a warm 9 work 00000 size 9;", 1, at + 11);
            Check.churchFault(word + " a warm 9 work 9 size 00000;", 1, at + 18);
        }
    }

    /** "kin NAME NAME (one of the left, one of the right, whichever first, these two not told already)" */
    private static void kin() {
        Check.due("left first", people(1, 1, "kin la ra;").pair(1, 0, 4), 1);
        Check.due("right first", people(1, 1, "kin ra la;").pair(0, 1, 4), 1);
        Check.due("none", people(1, 1, "").pair(0, 1, 4), 0);
        String two = Bounds.people(2, 2);
        int at = two.length();
        Check.churchFault(two + "kin la lb;", 3, at + 7);
        Check.churchFault(two + "kin ra rb;", 3, at + 7);
        Check.churchFault(two + "kin la la;", 3, at + 7);
        Check.churchFault(two + "kin la x;", 3, at + 7);
        Check.churchFault(two + "kin x la;", 3, at + 4);
        Check.churchFault(two + "kin la ra;kin la ra;", 3, at + 17);
        Check.churchFault(two + "kin la ra;kin ra la;", 3, at + 17);
        Check.churchFault(two + "kin rb lb;kin la ra;kin lb rb;", 3, at + 27);
        Check.churchSound(two + "kin la ra;kin la rb;kin lb ra;kin lb rb;", 8);
        StringBuilder all = new StringBuilder(Bounds.people(6, 6));
        for (int i = 0; i < 36; i++) {
            all.append("kin l").append((char) ('a' + i / 6)).append(" r").append((char) ('a' + i % 6)).append(';');
        }
        ClothWedding x = Check.church(all.toString());
        Check.due("all are kin", x.has(2), 36);
        Check.due("nobody is wed", x.rounds(100), 0);
        Check.due("no match", x.match(-1), 0);
    }

    /** "0 .. 9 .. the last one of each counts, 5 and 0 without", "of two of unlike sides" */
    private static void likingsAndKnowing() {
        ClothWedding x = people(1, 2, "likes la ra 0;likes ra la 9;knows la ra 9;knows ra la 0;");
        Check.due("0", x.pair(0, 1, 0), 0);
        Check.due("9", x.pair(1, 0, 0), 9);
        Check.due("9", x.pair(0, 1, 1), 9);
        Check.due("0", x.pair(1, 0, 1), 0);
        Check.due("5 without", x.pair(0, 2, 0), 5);
        Check.due("5 without", x.pair(2, 0, 0), 5);
        Check.due("0 without", x.pair(0, 2, 1), 0);
        Check.due("0 without", x.pair(2, 0, 1), 0);
        ClothWedding y = people(1, 1, "likes la ra 9;knows la ra 8;likes la ra 1;knows la ra 2;likes ra la 3;knows ra la 4;");
        Check.due("the last likes", y.pair(0, 1, 0), 1);
        Check.due("the last knows", y.pair(0, 1, 1), 2);
        Check.due("the other way", y.pair(1, 0, 0), 3);
        Check.due("the other way", y.pair(1, 0, 1), 4);
        for (String word : new String[] {"likes", "knows"}) {
            Check.churchSound(AB + word + " a b 0;" + word + " b a 9;", 4);
            Check.churchFault(AB + word + " a b 10;", 2, 67);
            Check.churchFault(AB + word + " b a 10;", 2, 67);
            Check.churchFault(AB + word + " a b 9999;", 2, 67);
            Check.churchFault(AB + word + " a b 00000;", 1, 71);
            Check.churchFault(AB + word + " a a 1;", 3, 65);
            Check.churchFault(AB + word + " b b 1;", 3, 65);
            Check.churchFault(AB + word + " a c 1;", 3, 65);
            Check.churchFault(AB + word + " c b 1;", 3, 63);
            Check.churchFault(AB + word + " a b;", 1, 66);
        }
    }

    /** "rounds N (1 .. 12; the last one counts, 3 without)" */
    private static void rounds() {
        Check.churchFault("rounds 0;", 2, 7);
        Check.churchFault("rounds 0000;", 2, 7);
        Check.due("1", Check.church("rounds 1;").has(5), 1);
        Check.due("12", Check.church("rounds 12;").has(5), 12);
        Check.churchFault("rounds 13;", 2, 7);
        Check.churchFault("rounds 00001;", 1, 11);
        Check.due("the last one", Check.church("rounds 12;rounds 1;rounds 2;").has(5), 2);
        Check.due("3 without", Check.church(A).has(5), 3);
        Check.due("3 without, behind another church", behind("rounds 12;", A, x -> x.has(5)), 3);
    }

    /** "slip N (0 .. 100; the last one counts, 0 without)" */
    private static void slip() {
        Check.due("0", people(1, 1, "slip 0;").chance(100), 0);
        Check.due("100", people(1, 1, "slip 100;").chance(100), 100);
        Check.churchFault("slip 101;", 2, 5);
        Check.churchFault("slip 00000;", 1, 9);
        Check.due("the last one", people(1, 1, "slip 0;slip 100;").chance(100), 100);
        Check.due("the last one", people(1, 1, "slip 100;slip 0;").chance(100), 0);
        Check.due("0 without", people(1, 1, "").chance(100), 0);
        Check.due("0 without, behind another church", behind(AB + "slip 100;", AB, x -> x.chance(100)), 0);
    }

    /** What a church answers that is told behind another one, behind two, behind one with a FAULT: always the same. */
    private static long behind(String first, String then, ToLongFunction<ClothWedding> asked) {
        long answer = lastOf(asked, first, then);
        Check.due("behind two: " + then, lastOf(asked, first, A, then), answer);
        Check.due("behind three: " + then, lastOf(asked, first, A, first, then), answer);
        Check.due("behind a FAULT: " + then, lastOf(asked, first + "x", then), answer);
        Check.due("behind a FAULT and another: " + then, lastOf(asked, A, first + "left", then), answer);
        return answer;
    }

    private static long lastOf(ToLongFunction<ClothWedding> asked, String... texts) {
        ClothWedding x = new ClothWedding();
        for (String text : texts) {
            Check.tape(x, text);
            x.church();
        }
        return asked.applyAsLong(x);
    }

    /** "feels SUM, lets TEST, learns SUM (one each)", "Without: feels is liking+known, lets is feel<8, learns is known+1" */
    private static void oneOfEachFormula() {
        Check.churchFault("feels 1;feels 1;", 5, 8);
        Check.churchFault("lets all;lets all;", 5, 9);
        Check.churchFault("learns 1;learns 1;", 5, 9);
        Check.churchFault("feels 1;lets all;learns 1;\n lets", 5, 28);
        Check.churchSound("learns 1;lets all;feels 1;", 3);
        ClothWedding x = people(1, 1, "likes la ra 7;knows la ra 2;likes ra la 7;");
        Check.due("liking+known", x.pair(0, 1, 2), 9);
        Check.due("9 is held", x.pair(0, 1, 3), 0);
        Check.due("7 is let go", x.pair(1, 0, 3), 1);
        x.like(1, 0, 8);
        Check.due("8 is held", x.pair(1, 0, 3), 0);
        x.like(1, 0, 0);
        x.rounds(1);
        Check.due("known+1", x.pair(0, 1, 1), 3);
        Check.due("known+1", x.pair(1, 0, 1), 1);
        String told = AB + "feels 50;lets all;learns 7;";
        Check.due("feels without, behind another church", behind(told, AB, y -> y.pair(0, 1, 2)), 5);
        Check.due("lets without, behind another church", behind(told, AB + "likes a b 8;", y -> y.pair(0, 1, 3)), 0);
        Check.due("learns without, behind another church", behind(told, AB, y -> {
            y.rounds(1);
            return y.pair(0, 1, 1);
        }), 1);
        Check.due("told again behind another church", behind(told, told, y -> y.pair(0, 1, 2)), 50);
    }

    /** "1 to 6 letters", "where a NAME is asked .. a 7th letter at itself" */
    private static void namesOfOneToSix() {
        Check.churchFault("left warm 1;", 1, 5);
        Check.churchSound("left z warm 1 work 1 size 1;", 1);
        Check.churchSound("left abcdef warm 1 work 1 size 1;", 1);
        Check.churchFault("left abcdefg warm 1 work 1 size 1;", 1, 11);
        Check.churchFault("right abcdefgh warm 1 work 1 size 1;", 1, 12);
        String six = "left abcdef warm 1 work 1 size 1;";
        Check.churchFault(six + "left abcdefa warm 1 work 1 size 1;", 1, 44);
        Check.churchFault(six + B + "kin abcdefg b;", 1, 72);
        Check.churchFault(six + B + "kin b abcdefg;", 1, 74);
        Check.churchFault(six + B + "likes b bbbbbbb 1;", 1, 76);
        Check.churchFault(six + B + "knows bbbbbbb b 1;", 1, 74);
        Check.churchSound(six + B + "kin b abcdef;", 3);
        ClothWedding x = Check.church(six);
        for (int k = -1; k < 7; k++) {
            Check.due("letter " + k, x.letter(0, k), k < 0 || k > 5 ? -1 : k + 1);
        }
    }

    /** A letter is a to z; the bytes beside these are none. */
    private static void lettersAlone() {
        Check.churchSound("left a warm 1 work 1 size 1;left z warm 1 work 1 size 1;", 2);
        for (char c : new char[] {'`', '{', 'A', 'Z', '@', '/', ':', '_', '\'', '\u00e9', '\u007f', '\u00ff', '\0'}) {
            Check.churchFault("left " + c + " warm 1 work 1 size 1;", 1, 5);
            Check.churchFault("left a" + c + " warm 1 work 1 size 1;", 1, 6);
            Check.churchFault("left abcdef" + c + " warm 1 work 1 size 1;", 1, 11);
            Check.churchFault("" + c, 1, 0);
            Check.churchFault("slip " + c, 1, 5);
            Check.churchFault("slip 1" + c, 1, 6);
        }
        Check.churchFault("left 1 warm", 1, 5);
        Check.churchFault("left a0 warm", 1, 6);
        Check.churchSound("slip 0;slip 9;", 2);
    }

    /** "no OWN WORD" (not even where another one is asked), but longer and shorter ones are names. */
    private static void ownWords() {
        for (String own : PlainWedding.OWN.trim().split(" ")) {
            Check.churchFault("left " + own + " warm 1 work 1 size 1;", 1, 5);
            Check.churchFault(AB + "kin " + own + " b;", 1, 61);
            Check.churchFault(AB + "kin a " + own + ";", 1, 63);
            Check.churchFault(AB + "likes b " + own + " 1;", 1, 65);
            for (String beside : new String[] {own.substring(1), own.substring(0, own.length() - 1), own + "s"}) {
                if (beside.length() > 6) {
                    Check.churchFault("left " + beside + " warm 1", 1, 11);
                } else if (!PlainWedding.OWN.contains(" " + beside + " ")) {
                    Check.churchSound("left " + beside + " warm 1 work 1 size 1;", 1);
                }
            }
        }
        for (String none : "first last often total most least wait rig".split(" ")) {
            Check.churchSound("left " + none + " warm 1 work 1 size 1;", 1);
        }
    }

    /** "unlike ones (of both sides)", "3 a NAME to be given that is there already .. at it" */
    private static void unlikeNames() {
        Check.churchFault(A + A, 3, 33);
        Check.churchFault(A + "right a warm 1 work 1 size 1;", 3, 34);
        Check.churchFault(B + "left  b warm 1 work 1 size 1;", 3, 35);
        Check.churchSound(A + "right aa warm 1 work 1 size 1;left aaa warm 1 work 1 size 1;", 3);
        Check.churchSound("left abcdef warm 1 work 1 size 1;left abcdee warm 1 work 1 size 1;left abcde warm 1 work 1 size 1;", 3);
        String five = "left la warm 1 work 1 size 1;" + Bounds.people(0, 5);
        Check.churchSound(five + "right rf warm 1 work 1 size 1;", 7);
        Check.churchFault(five + "right re warm 1 work 1 size 1;", 3, five.length() + 6);
        Check.due("free again behind another church", behind(AB, B + A, x -> x.has(0) * 10 + x.has(1)), 11);
        Check.due("a side is empty again", behind(Bounds.people(6, 6), Bounds.people(6, 6), x -> x.has(0) * 10 + x.has(1)), 66);
        Check.due("a side is empty again", behind(Bounds.people(6, 6), A, x -> x.has(0) * 10 + x.has(1)), 10);
    }

    /** "told ahead of where they are asked", "3 .. one that is none of what is asked" */
    private static void toldAhead() {
        Check.churchFault("kin a b;" + AB, 3, 4);
        Check.churchFault(A + "kin a b;" + B, 3, 34);
        Check.churchFault(A + "likes b a 1;" + B, 3, 34);
        Check.churchFault(A + "knows a b 1;" + B, 3, 36);
        Check.churchSound(AB + "kin a b;", 3);
        ClothWedding x = Check.church(AB);
        Check.tape(x, A + "kin a b;");
        Check.due("a NAME of the church before is none", x.church(), -1);
        Check.due("its FAULT", x.fault(0), 3);
        Check.due("its place", x.fault(1), 34);
        Check.due("kin of the church before are none", behind(AB + "kin a b;", AB, y -> y.has(2) + y.pair(0, 1, 4)), 0);
        Check.due("kin may be told again", behind(AB + "kin a b;", AB + "kin a b;", y -> y.has(2) + y.pair(1, 0, 4)), 2);
        Check.due("likings of the one before are none", behind(AB + "likes a b 9;likes b a 0;", AB,
            y -> y.pair(0, 1, 0) * 10 + y.pair(1, 0, 0)), 55);
        Check.due("knowing of the one before is none", behind(AB + "knows a b 9;knows b a 1;", AB,
            y -> y.pair(0, 1, 1) + y.pair(1, 0, 1)), 0);
    }

    /** "Blanks (10, 32) are where one likes" */
    private static void blanks() {
        Check.churchSound("\n  left\n\na  warm\n1 work\n 1 size 1 \n;\n", 1);
        Check.churchSound("lets[all]or not[all]and 1<2;", 1);
        Check.churchSound(" lets [ all ] or not [ all ] and 1 < 2 ; ", 1);
        Check.churchSound("feels(1)+min(2,3)*4/5-6;", 1);
        for (int c = 0; c < 256; c++) {
            if (c == 32 || c == 10) {
                Check.churchSound("slip" + (char) c + "1;", 1);
                Check.churchSound((char) c + "slip 1;", 1);
            } else if ("0123456789".indexOf(c) < 0) {
                Check.churchFault("slip " + (char) c + "1;", 1, 5);
                if (c < 'a' || c > 'z') {
                    Check.churchFault((char) c + "slip 1;", 1, 0);
                    Check.churchFault("slip" + (char) c + "1;", 1, 4);
                }
            }
        }
    }

    /** "words and numbers side by side need one" */
    private static void besides() {
        Check.churchFault("slip1;", 1, 4);
        Check.churchFault("slip 1slip 1;", 1, 6);
        Check.churchFault("leftright", 1, 0);
        Check.churchFault("left a warm1", 1, 11);
        Check.churchFault("left a warm 1work 1", 1, 13);
        Check.churchFault("left a warm 1 work 1size 1", 1, 20);
        Check.churchFault("left a1", 1, 6);
        Check.churchFault(AB + "likes a b1;", 1, 66);
        Check.churchFault("feels 1known;", 1, 7);
        Check.churchFault("feels known1;", 1, 11);
        Check.churchFault("lets 1<2and all;", 1, 8);
        Check.churchFault("lets 1<2or all;", 1, 8);
        Check.churchFault("lets all and1<2;", 1, 12);
        Check.churchFault("lets allor all;", 1, 5);
        Check.churchSound("lets(1)<(2)and(1)<(2)or[all]and not[all];", 1);
        Check.churchSound("feels min(1,2);", 1);
        Check.churchFault("feels min1,2);", 1, 9);
        Check.churchFault("slip 1 2;", 1, 7);
        Check.churchFault("left a b;", 1, 7);
        Check.churchFault("left a 1 work 1 size 1;", 1, 7);
        Check.churchFault("left a warm 1 1 size 1;", 1, 14);
        Check.churchFault("left a warm 1 work 1 1;", 1, 21);
        Check.churchFault("left a work 1 size 1;", 1, 7);
        Check.churchFault("left a warm 1 size 1;", 1, 14);
        Check.churchFault("left a warm 1 work 1;", 1, 20);
    }

    /** "at the text's length, if it ends too soon", wherever a text is cut. */
    private static void tooSoon() {
        String text = AB + "kin a b;likes a b 3;knows b a 4;rounds 4;slip 7;feels min(known,(1))+size*2;"
            + "lets not[feel<8 and all]or round=1;learns max(1,2);";
        Check.churchSound(text, 10);
        for (int n = 0; n < text.length(); n++) {
            String cut = text.substring(0, n);
            String rest = text.substring(n);
            boolean whole = n == 0 || cut.endsWith(";");
            boolean inWord = n > 0 && Character.isLetter(cut.charAt(n - 1)) && Character.isLetter(rest.charAt(0));
            if (whole) {
                Check.churchSound(cut, cut.length() - cut.replace(";", "").length());
                Check.churchSound(cut + " ", cut.length() - cut.replace(";", "").length());
            } else if (!inWord) {
                Check.churchFault(cut, 1, n);
                Check.churchFault(cut + " ", 1, n + 1);
                Check.churchFault(cut + "\n\n", 1, n + 2);
            }
        }
    }

    /** "FAULTS, the first along the text" */
    private static void theFirstAlongTheText() {
        Check.churchFault("slip 101;x", 2, 5);
        Check.churchFault("x;slip 101;", 1, 0);
        Check.churchFault("left a warm 10 work 10 size 10 size;", 2, 12);
        Check.churchFault("kin a warm;", 3, 4);
        Check.churchFault("kin warm a;", 1, 4);
        Check.churchFault("feels 1;feels ((((((((1;", 5, 8);
        Check.churchFault("feels (((((((1)))))));feels 1;", 4, 12);
        Check.churchFault("rounds 0 0;rounds 13;", 2, 7);
        Check.churchFault("rounds 1 0;rounds 13;", 1, 9);
        Check.churchFault(A + "left a warm 10;", 3, 33);
        ClothWedding x = new ClothWedding();
        Check.tape(x, "x");
        x.church();
        Check.tape(x, "slip 1;slip 101;");
        x.church();
        Check.due("of the latest church()", x.fault(0), 2);
        Check.due("its place", x.fault(1), 12);
        Check.tape(x, "slip 100;");
        x.church();
        Check.due("0 without", x.fault(0), 0);
        Check.due("NONE without", x.fault(1), -1);
        Check.due("fault(2)", x.fault(2), -1);
        Check.due("fault(-1)", x.fault(-1), -1);
        Check.due("fault ahead of any", new ClothWedding().fault(0), 0);
        Check.due("its place ahead of any", new ClothWedding().fault(1), -1);
    }

    /** A text may be as long as the tape. */
    private static void fullTape() {
        Check.churchSound("slip 1" + " ".repeat(1593) + ";", 1);
        Check.churchFault("slip 1" + " ".repeat(1594), 1, 1600);
        Check.churchFault("slip 1" + " ".repeat(1593) + "x", 1, 1599);
        Check.churchSound("slip 1;" + "\n".repeat(1593), 1);
        Check.churchSound("feels " + "1+".repeat(796) + "1;", 1);
        Check.churchSound("feels " + "1*".repeat(796) + "1;", 1);
        Check.churchSound("lets " + "all and ".repeat(198) + "all;", 1);
        Check.churchSound("lets " + "all  or ".repeat(198) + "all;", 1);
        Check.churchFault("lets " + "all and ".repeat(199) + "al;", 1, 1597);
        Check.churchFault("z".repeat(1600), 1, 0);
        Check.churchFault("left " + "z".repeat(1595), 1, 11);
        Check.churchFault("slip " + "0".repeat(1595), 1, 9);
    }

    private static final String FOUR = Bounds.people(2, 2) + "slip 30;kin la rb;likes la ra 8;knows rb lb 3;rounds 2;";

    private static ClothWedding lived() {
        ClothWedding x = Check.church(FOUR);
        x.rounds(5);
        x.chance(2);
        x.swap(0, 0, 1);
        x.like(0, 2, 2);
        x.learn(3, 0, 7);
        Bounds.see(x, 3, 0, 1);
        x.image();
        return x;
    }

    /** "Without one all is as at first, nothing is KEPT, SEEN or can be undone; the seed stays." */
    private static void asAtFirst() {
        ClothWedding x = lived();
        Check.due("lived", x.has(6) * 100 + x.has(7) * 10 + x.has(8), 111);
        Check.due("in a ROUND, a SPRING", x.has(3) * 10 + x.has(4), 31);
        Check.due("waited", x.person(0, 4) + x.person(1, 4) > 0, true);
        Check.due("acts", x.has(9), 5);
        Check.tape(x, FOUR);
        Check.due("church", x.church(), 9);
        ClothWedding y = Check.church(FOUR);
        x.seed(9);
        y.seed(9);
        x.image();
        y.image();
        Bounds.alike("as at first", x, y);
        ClothWedding z = lived();
        Check.tape(z, "");
        Check.due("nothing told", z.church(), 0);
        int[] due = {0, 0, 0, 0, 0, 3, 0, 0, 0, 0};
        for (int what = 0; what < 10; what++) {
            Check.due("nothing told: has " + what, z.has(what), due[what]);
        }
        z.seed(1);
        z.image();
        ClothWedding none = new ClothWedding();
        none.image();
        Bounds.alike("nothing told", z, none);
    }

    /** "NONE, refused (1), with a FAULT (all stays)" */
    private static void refusedLeavesAll() {
        for (String text : new String[] {"x", A + "x", FOUR + ";", "rounds 7;slip 101;", "kin la ra;", "feels ((((((((1;",
            "slip 1;".repeat(61), "left", AB + "kin a b;kin a b;"}) {
            Bounds.stays("church of " + text, ChurchBoundsTest::lived, x -> {
                Check.tape(x, text);
                return x.church();
            }, -1, 1);
        }
    }

    /** A QUESTION's words are none of a church that is told behind it, and a church's none of a QUESTION. */
    private static void behindQuestions() {
        for (String question : new String[] {"total likes 1", "first number=1", "total likes likes x", "most knows((1"}) {
            ClothWedding x = Check.church(AB);
            Check.ask(x, question);
            Check.tape(x, AB + "feels known+liking*2;lets feel<11 and waited=0;learns feel/2;");
            Check.due("church behind " + question, x.church(), 5);
            Check.due("its feels", x.pair(0, 1, 2), 10);
            Check.due("its lets", x.pair(0, 1, 3), 1);
            Check.ask(x, question);
            Check.tape(x, AB + "feels likes 1;");
            Check.due("likes in a church", x.church(), -1);
            Check.due("its place", x.fault(1), 63);
            Check.ask(x, question);
            Check.tape(x, AB + "feels number;");
            Check.due("number in a church", x.church(), -1);
            Check.due("its place", x.fault(1), 63);
            Check.askFault(x, "total liking", 1, 6);
            Check.due("the church stays", x.pair(0, 1, 2), 10);
            Check.due("a question again", Check.ask(x, "total likes 1+number"), 6);
        }
    }
}
