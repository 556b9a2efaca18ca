/** Promises 4, 5: a church's text, its FAULTS and their places. */
public final class ChurchTest {
    private static final String A = "left a warm 1 work 1 size 1;";
    private static final String B = "right b warm 1 work 1 size 1;";

    public static void main(String[] args) {
        soundTexts();
        firstByteThatCannotBe();
        sideBySide();
        numbersThatCannotBe();
        names();
        open();
        tooMany();
        whatStays();
        wordsByFormula();
        Check.finish("ChurchTest");
    }

    private static void soundTexts() {
        Check.churchSound("", 0);
        Check.churchSound(" \n ", 0);
        Check.churchSound(A, 1);
        Check.churchSound(" \n" + A + "\n \n" + B + " ", 2);
        Check.churchSound("left\na\nwarm\n1\nwork 1 size 1\n;", 1);
        Check.churchSound("left abcdef warm 0009 work 0 size 9;", 1);
        Check.churchSound("left first warm 1 work 1 size 1;right total warm 1 work 1 size 1;kin total first;", 3);
        Check.churchSound("rounds 1;rounds 12;slip 0;slip 100;", 4);
        Check.churchSound("feels liking+known;lets feel<8;learns known+1;", 3);
        Check.churchSound("feels 9999*9999;", 1);
        Check.churchSound("lets not[all]or[all]and all;", 1);
        Check.churchSound("lets(feel)<(8);", 1);
        Check.churchSound("feels min(1,2)+max ( 1 , 2 ) ;", 1);
        Check.churchSound(A + B + "kin b a;likes a b 0;likes a b 9;knows b a 9;", 6);
    }

    private static void firstByteThatCannotBe() {
        Check.churchFault(";", 1, 0);
        Check.churchFault(A + ";", 1, 28);
        Check.churchFault("Left", 1, 0);
        Check.churchFault("lef a warm 1", 1, 0);
        Check.churchFault("lefts a warm 1", 1, 0);
        Check.churchFault("  x", 1, 2);
        Check.churchFault("5", 1, 0);
        Check.churchFault("wed", 1, 0);
        Check.churchFault("left", 1, 4);
        Check.churchFault("left  ", 1, 6);
        Check.churchFault("left a", 1, 6);
        Check.churchFault("left 5", 1, 5);
        Check.churchFault("left A", 1, 5);
        Check.churchFault("left aB", 1, 6);
        Check.churchFault("left a work 1", 1, 7);
        Check.churchFault("left a warm x", 1, 12);
        Check.churchFault("left a warm 1 work 1 size 1", 1, 27);
        Check.churchFault("left a warm 1 work 1 size 1 ", 1, 28);
        Check.churchFault("left a warm 1 work 1 size 1,", 1, 27);
        Check.churchFault("left a warm 1 work 1 size 1 2;", 1, 28);
        Check.churchFault("rounds 3\t;", 1, 8);
        Check.churchFault("feels ;", 1, 6);
        Check.churchFault("feels -1;", 1, 6);
        Check.churchFault("feels 1+;", 1, 8);
        Check.churchFault("feels (1;", 1, 8);
        Check.churchFault("feels 1);", 1, 7);
        Check.churchFault("feels min 1,2);", 1, 10);
        Check.churchFault("feels min(1);", 1, 11);
        Check.churchFault("feels min(1,2;", 1, 13);
        Check.churchFault("feels 1<2;", 1, 7);
        Check.churchFault("feels 1**2;", 1, 8);
        Check.churchFault("lets feel;", 1, 9);
        Check.churchFault("lets feel<8<9;", 1, 11);
        Check.churchFault("lets all<8;", 1, 8);
        Check.churchFault("lets [all;", 1, 9);
        Check.churchFault("lets not;", 1, 8);
        Check.churchFault("lets all and;", 1, 12);
        Check.churchFault("lets feel<8 or;", 1, 14);
        Check.churchFault("lets (all);", 1, 6);
        Check.churchFault("lets [feel];", 1, 10);
        Check.churchFault("feels not 1;", 1, 6);
    }

    /** Words and numbers side by side need a blank. */
    private static void sideBySide() {
        Check.churchFault("left a warm1", 1, 11);
        Check.churchFault("left a warm 1work", 1, 13);
        Check.churchFault("left a1", 1, 6);
        Check.churchFault("rounds3;", 1, 6);
        Check.churchFault("rounds13;", 1, 6);
        Check.churchFault("rounds12345;", 1, 6);
        Check.churchFault("feels known2;", 1, 11);
        Check.churchFault("feels2;", 1, 5);
        Check.churchFault("lets feel<8and all;", 1, 11);
        Check.churchFault("lets feel<8or all;", 1, 11);
        Check.churchFault("lets all and1<2;", 1, 12);
        Check.churchFault("lets not1<2;", 1, 8);
        Check.churchFault("lets notall;", 1, 5);
        Check.churchFault(A + B + "likes a b5;", 1, 66);
        Check.churchSound("lets feel<8 and[all];", 1);
        Check.churchSound("lets [all]and(1)<2;", 1);
    }

    private static void numbersThatCannotBe() {
        Check.churchFault("left a warm 10", 2, 12);
        Check.churchFault("left a warm 9999", 2, 12);
        Check.churchFault("left a warm 10x", 2, 12);
        Check.churchFault("left a warm 12345", 1, 16);
        Check.churchFault("left a warm 00001", 1, 16);
        Check.churchFault("left a warm 1 work 10", 2, 19);
        Check.churchFault("rounds 0;", 2, 7);
        Check.churchFault("rounds 13;", 2, 7);
        Check.churchFault("slip 101;", 2, 5);
        Check.churchFault("feels 10000;", 1, 10);
        Check.churchFault(A + B + "likes a b 10;", 2, 67);
        Check.churchFault(A + B + "knows a b 10;", 2, 67);
    }

    private static void names() {
        Check.churchFault("left abcdefg warm", 1, 11);
        Check.churchFault("left abcdefghij", 1, 11);
        Check.churchFault("left learns", 1, 5);
        Check.churchFault(A + "left a", 3, 33);
        Check.churchFault(A + "right a", 3, 34);
        Check.churchSound(A + "right aa warm 1 work 1 size 1;", 2);
        Check.churchFault(A + B + "kin c a;", 3, 61);
        Check.churchFault(A + B + "kin a c;", 3, 63);
        Check.churchFault(A + B + "kin a a;", 3, 63);
        Check.churchFault(A + B + "kin abcdefg b;", 1, 67);
        Check.churchFault(A + B + "kin kin b;", 1, 61);
        Check.churchFault(A + B + "kin a b;kin a b;", 3, 71);
        Check.churchFault(A + B + "kin a b;kin b a;", 3, 71);
        Check.churchFault(A + B + "likes b b 3;", 3, 65);
        Check.churchFault(A + B + "knows x b 3;", 3, 63);
        Check.churchFault("kin a b;" + A + B, 3, 4);
        for (String own : ("left right warm work size kin likes knows rounds feels lets learns slip liking known feel round"
            + " spring waited number side wed or and not all min max").split(" ")) {
            Check.churchFault("right " + own + " warm 1", 1, 6);
        }
    }

    /** Six of ( [ not may be open at once. */
    private static void open() {
        Check.churchSound("feels ((((((1))))));", 1);
        Check.churchFault("feels (((((((1)))))));", 4, 12);
        Check.churchSound("lets not not not not not not all;", 1);
        Check.churchFault("lets not not not not not not not all;", 4, 29);
        Check.churchFault("lets [[[[[[[all]]]]]]];", 4, 11);
        Check.churchSound("lets [[[[[[all]]]]]] and [[[[[[all]]]]]];", 1);
        Check.churchSound("lets not not not all and not not not not not not all or not not all;", 1);
        Check.churchFault("lets not [not [(1)=1 and (2)<min (3,4)]] or not [not [not [not (1)<2]]];", 4, 59);
        Check.churchFault("feels ((((((min(1,2)))))));", 4, 15);
        Check.churchFault("feels ((((((min 1,2)))))));", 1, 16);
        Check.churchSound("feels (((((min(1,2)+max(1,2))))));", 1);
        Check.churchFault("lets not not not not not not not5;", 4, 29);
        Check.churchSound("lets not not not (1)<(2) and not (((((1)))))<2;", 1);
    }

    private static void tooMany() {
        StringBuilder six = new StringBuilder();
        for (int i = 0; i < 6; i++) {
            six.append("left a").append((char) ('a' + i)).append(" warm 1 work 1 size 1;");
        }
        Check.churchSound(six.toString(), 6);
        Check.churchFault(six + "left a", 5, six.length());
        Check.churchFault(six + " left5", 5, six.length() + 1);
        Check.churchFault(six + B + "left aa", 5, six.length() + 29);
        Check.churchFault("feels 1;feels 2;", 5, 8);
        Check.churchFault("lets all; lets x;", 5, 10);
        Check.churchFault("learns 1;learns", 5, 9);
        String sixty = "slip 1;".repeat(60);
        Check.churchSound(sixty, 60);
        Check.churchSound(sixty + " \n", 60);
        Check.churchFault(sixty + "slip 1;", 5, 420);
        Check.churchFault(sixty + " #", 5, 421);
        Check.churchFault(sixty + ";", 5, 420);
    }

    private static void whatStays() {
        ClothWedding x = Check.church(A + B + "rounds 1;lets not all;");
        x.rounds(1);
        Check.tape(x, 1, 0, 1);
        x.see();
        Check.tape(x, "rounds 2;oops;");
        Check.due("church with a fault", x.church(), -1);
        Check.due("fault(0)", x.fault(0), 1);
        Check.due("fault(1)", x.fault(1), 9);
        Check.due("rounds stay", x.has(5), 1);
        Check.due("spring stays", x.has(3), 1);
        Check.due("wed stay", x.has(6), 1);
        Check.due("kept stays", x.has(7), 1);
        Check.due("seen stays", x.has(8), 1);
        Check.due("acts stay", x.has(9), 1);
        x.seed(7);
        Check.due("church again", x.church(), 0);
        Check.due("fault(0) without", x.fault(0), 0);
        Check.due("fault(1) without", x.fault(1), -1);
        for (int what = 0; what < 10; what++) {
            Check.due("as at first has(" + what + ")", x.has(what), what == 5 ? 3 : 0);
        }
        Check.due("nothing to undo", x.undo(), false);
        Check.due("refusals stay", x.status(1), 1);
        Check.tape(x, "nothing");
        Check.due("ask with a fault", x.ask(), ClothWedding.NOTHING);
        Check.due("fault of ask", x.fault(0), 1);
        Check.due("place of ask", x.fault(1), 0);
        Check.due("ask is not refused", x.status(1), 1);
        seedStays();
    }

    private static void seedStays() {
        String text = A + B + "slip 50;";
        ClothWedding x = Check.church(text);
        ClothWedding y = Check.church(text);
        x.seed(12345);
        y.seed(12345);
        Check.tape(y, text);
        y.church();
        Check.due("the seed stays", y.chance(40), x.chance(40));
    }

    /** Which words each formula has. */
    private static void wordsByFormula() {
        String[] words = {"known", "spring", "warm", "work", "size", "liking", "feel", "round", "waited", "number", "side",
            "wed", "likes", "all", "x"};
        String feels = "known spring warm work size liking";
        String lets = "known spring liking feel round waited";
        String learns = "known spring feel";
        for (String word : words) {
            byWord("feels " + word + ";", among(feels, word), 6);
            byWord("lets " + word + "<1;", among(lets, word), word.equals("all") ? 8 : 5);
            byWord("learns " + word + ";", among(learns, word), 7);
        }
    }

    private static boolean among(String words, String word) {
        return (" " + words + " ").contains(" " + word + " ");
    }

    private static void byWord(String text, boolean sound, int place) {
        if (sound) {
            Check.churchSound(text, 1);
        } else {
            Check.churchFault(text, 1, place);
        }
    }
}
