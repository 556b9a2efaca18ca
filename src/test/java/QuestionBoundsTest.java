/** Promise 31, and "Terms" IV of QUESTIONS, at their bounds. */
public final class QuestionBoundsTest {
    private static final String KINDS = "first last often total most least";

    public static void main(String[] args) {
        withoutPeople();
        noneToAll();
        firstAndLast();
        notHeldTogether();
        greatestAndLeast();
        hisOwn();
        thatOnesNumber();
        wordsThatStand();
        whatStandsBehind();
        tooSoon();
        faultsOfTheLatest();
        nothingChanges();
        fullTape();
        Check.finish("QuestionBoundsTest");
    }

    private static void due(ClothWedding x, String text, long due) {
        Check.due(text, Check.ask(x, text), due);
    }

    /** "NONE of first, last, when its TEST holds for none", "(.. 0 without PEOPLE)" */
    private static void withoutPeople() {
        for (String kind : KINDS.split(" ")) {
            boolean test = "first last often".contains(kind);
            ClothWedding x = new ClothWedding();
            due(x, kind + (test ? " all" : " 7"), kind.endsWith("st") && test ? -1 : 0);
            due(x, kind + (test ? " not all" : " 0-7"), kind.endsWith("st") && test ? -1 : 0);
            Check.due("no FAULT", x.fault(0), 0);
        }
    }

    private static void noneToAll() {
        ClothWedding x = Bounds.church(6, 6, "");
        due(x, "often all", 12);
        due(x, "often not all", 0);
        due(x, "often number<1", 1);
        due(x, "often number<11", 11);
        due(x, "often number<12", 12);
        due(x, "often number>11", 0);
        due(x, "often side=1", 6);
    }

    /** "(the first, the last one for whom it holds)" */
    private static void firstAndLast() {
        ClothWedding x = Bounds.church(6, 6, "");
        due(x, "first all", 0);
        due(x, "last all", 11);
        due(x, "first not all", -1);
        due(x, "last not all", -1);
        due(x, "first number>10", 11);
        due(x, "first number>11", -1);
        due(x, "last number<1", 0);
        due(x, "last number<0", -1);
        due(x, "first side=1", 6);
        due(x, "last side=0", 5);
        due(x, "first number=3 or number=4", 3);
        due(x, "last number=3 or number=4", 4);
        ClothWedding y = Bounds.church(1, 0, "");
        due(y, "first all", 0);
        due(y, "last all", 0);
        due(y, "first not all", -1);
    }

    /** "total SUM (of all together, not held)" */
    private static void notHeldTogether() {
        due(Bounds.church(1, 0, ""), "total 1000*1000", 1000000);
        due(Bounds.church(1, 1, ""), "total 1000*1000", 2000000);
        due(Bounds.church(1, 1, ""), "total 0-1000*1000", -2000000);
        due(Bounds.church(6, 6, ""), "total 9999*9999", 12000000);
        due(Bounds.church(6, 6, ""), "total 0-9999*9999", -12000000);
        due(Bounds.church(6, 6, ""), "total (side*2-1)*9999*9999", 0);
        due(Bounds.church(6, 6, ""), "total 999*1000+999", 11999988);
        due(Bounds.church(6, 6, ""), "total 0", 0);
        due(Bounds.church(1, 1, ""), "total 0-1", -2);
    }

    private static void greatestAndLeast() {
        ClothWedding x = Bounds.church(6, 6, "");
        due(x, "most number", 11);
        due(x, "least number", 0);
        due(x, "most 0-number", 0);
        due(x, "least 0-number", -11);
        due(x, "most 0-1-number", -1);
        due(x, "least 1+number", 1);
        due(x, "most 9999*9999", 1000000);
        due(x, "least 0-9999*9999", -1000000);
        due(x, "most 0-9999*9999", -1000000);
        due(x, "least 9999*9999", 1000000);
        due(x, "most min(number,11-number)", 5);
        due(x, "least max(number,11-number)", 6);
        due(Bounds.church(0, 1, ""), "most 0-5", -5);
        due(Bounds.church(0, 1, ""), "least 5", 5);
    }

    /** "(His number; 0 on the left, 1 on the right; his hand; 1 if he is WED, else 0 ..)" */
    private static void hisOwn() {
        ClothWedding x = Check.church("right b warm 9 work 8 size 7;left a warm 1 work 0 size 2;lets not all;rounds 4;");
        due(x, "total number", 1);
        due(x, "first side=0", 0);
        due(x, "last side=1", 1);
        due(x, "most warm", 9);
        due(x, "least warm", 1);
        due(x, "most work", 8);
        due(x, "least work", 0);
        due(x, "most size", 7);
        due(x, "least size", 2);
        due(x, "total wed", 0);
        x.rounds(1);
        due(x, "total wed", 2);
        due(x, "total round", 2);
        due(x, "total spring", 0);
        x.rounds(3);
        due(x, "total round", 0);
        due(x, "total spring", 2);
        due(x, "total waited", 0);
        x.part(0);
        due(x, "total wed", 0);
        Bounds.at(x, 999, 3);
        due(x, "most spring", 999);
        due(x, "most round", 3);
        ClothWedding y = Bounds.church(1, 0, "rounds 1;");
        y.rounds(100);
        due(y, "total waited", 99);
    }

    /** "how he likes the one of that number, knows that one's hand: 0 of one of his side, or that there is not" */
    private static void thatOnesNumber() {
        ClothWedding x = Bounds.church(2, 3, "likes la ra 1;likes lb ra 2;likes la rc 3;likes ra la 4;likes rc lb 6;"
            + "knows la ra 7;knows lb rc 8;knows ra la 9;knows rc lb 1;");
        due(x, "total likes 0", 4 + 5 + 5);
        due(x, "total likes 1", 5 + 5 + 6);
        due(x, "total likes 2", 1 + 2);
        due(x, "total likes 4", 3 + 5);
        due(x, "total likes 5", 0);
        due(x, "total likes 11", 0);
        due(x, "total likes 12", 0);
        due(x, "total likes 13", 0);
        due(x, "total likes 9999", 0);
        due(x, "total likes(0-1)", 0);
        due(x, "total likes(0-12)", 0);
        due(x, "total likes(9999*9999)", 0);
        due(x, "total likes(0-9999*9999)", 0);
        due(x, "total knows 0", 9);
        due(x, "total knows 1", 1);
        due(x, "total knows 2", 7);
        due(x, "total knows 4", 8);
        due(x, "total knows 5", 0);
        due(x, "total knows(0-1)", 0);
        due(x, "total knows 12", 0);
        due(x, "total likes number", 0);
        due(x, "total knows(number)", 0);
        due(x, "first likes 2=0", 2);
        due(x, "last likes 4=0", 4);
        ClothWedding six = Bounds.church(6, 6, "likes la rf 9;likes rf la 8;knows lf rf 7;");
        due(six, "total likes 11", 34);
        due(six, "most likes 11", 9);
        due(six, "total likes 0", 33);
        due(six, "total knows 11", 7);
        due(six, "total likes 12", 0);
        due(six, "total likes 12+likes 11", 34);
        due(six, "total knows 12", 0);
    }

    /** "1 as in I (an unknown word at its first byte ..)" */
    private static void wordsThatStand() {
        ClothWedding x = Bounds.church(1, 1, "");
        for (String word : "number side warm work size waited wed spring round".split(" ")) {
            Check.due(word, Check.ask(x, "most " + word) != ClothWedding.NOTHING, true);
            Check.askFault(x, "most " + word + "s", 1, 5);
            Check.askFault(x, "most " + word.substring(1), 1, 5);
            Check.askFault(x, "most " + word + word, 1, 5);
        }
        for (String word : "liking known feel la ra all not and or left right kin rounds feels lets learns slip first total x".split(" ")) {
            Check.askFault(x, "most " + word, 1, 5);
            Check.askFault(x, "most 1+" + word, 1, 7);
        }
        for (String kind : KINDS.split(" ")) {
            Check.askFault(x, kind, 1, kind.length());
            Check.askFault(x, kind + "s 1<2", 1, 0);
            Check.askFault(x, " " + kind.substring(1) + " 1", 1, 1);
            Check.askFault(x, kind.toUpperCase() + " 1", 1, 0);
            Check.askFault(x, kind + "1", 1, kind.length());
            Check.askFault(x, kind + " " + kind, 1, kind.length() + 1);
        }
        Check.askFault(x, "likes 1", 1, 0);
        Check.askFault(x, "1", 1, 0);
        Check.askFault(x, "most likes", 1, 10);
        Check.askFault(x, "most likes likes", 1, 16);
        Check.askFault(x, "most likes1", 1, 10);
        Check.askFault(x, "most likes x", 1, 11);
        Check.askFault(x, "most likes-1", 1, 10);
        Check.askFault(x, "total all", 1, 6);
        Check.askFault(x, "total [1]", 1, 6);
        Check.askFault(x, "first number", 1, 12);
        Check.askFault(x, "first (1<2)", 1, 8);
    }

    /** "what stands behind it, too" */
    private static void whatStandsBehind() {
        ClothWedding x = Bounds.church(1, 1, "");
        Check.askFault(x, "total 1;", 1, 7);
        Check.askFault(x, "total 1 ;", 1, 8);
        Check.askFault(x, "total 1 2", 1, 8);
        Check.askFault(x, "total 1 warm", 1, 8);
        Check.askFault(x, "total 1warm", 1, 7);
        Check.askFault(x, "total 1)", 1, 7);
        Check.askFault(x, "total 1<2", 1, 7);
        Check.askFault(x, "total 1 total 1", 1, 8);
        Check.askFault(x, "first all]", 1, 9);
        Check.askFault(x, "first all all", 1, 10);
        Check.askFault(x, "first 1<2<3", 1, 9);
        Check.askFault(x, "first 1<2 and", 1, 13);
        Check.askFault(x, "total 1\t", 1, 7);
        Check.askFault(x, "total 1\0", 1, 7);
        due(x, "total 1 \n ", 2);
        due(x, "\n total\n1", 2);
    }

    private static void tooSoon() {
        String text = "first not[likes(1)<min(2,knows 0)and all]or number=9";
        ClothWedding x = Bounds.church(1, 1, "");
        Check.due("whole", Check.ask(x, text) != ClothWedding.NOTHING, true);
        for (int n = 0; n < text.length(); n++) {
            boolean inWord = n > 0 && Character.isLetter(text.charAt(n - 1)) && Character.isLetter(text.charAt(n));
            if (!inWord && !text.substring(0, n).endsWith("]")) {
                Check.askFault(Bounds.church(1, 1, ""), text.substring(0, n), 1, n);
                Check.askFault(Bounds.church(1, 1, ""), text.substring(0, n) + " \n", 1, n + 2);
            }
        }
    }

    /** "Of the latest church() or ask(): its FAULT (what 0; 0 without ..), its place (1; NONE without)." */
    private static void faultsOfTheLatest() {
        ClothWedding x = Bounds.church(1, 1, "");
        Check.askFault(x, "total (((((((1", 4, 12);
        due(x, "total 1", 2);
        Check.due("without", x.fault(0), 0);
        Check.due("NONE without", x.fault(1), -1);
        Check.tape(x, "slip 101;");
        x.church();
        Check.due("of church()", x.fault(0), 2);
        due(x, "first not all", -1);
        Check.due("NONE is no FAULT", x.fault(0), 0);
        Check.askFault(x, "", 1, 0);
        Check.tape(x, "");
        x.church();
        Check.due("without", x.fault(0), 0);
        Check.due("NONE without", x.fault(1), -1);
        Check.due("refused church() alone", x.status(1), 1);
    }

    private static ClothWedding lived() {
        ClothWedding x = Bounds.church(2, 2, "slip 30;feels known+liking+size;lets feel<9;learns known+feel/4;");
        x.rounds(4);
        x.image();
        Bounds.see(x, 3, 0, 1);
        return x;
    }

    private static void nothingChanges() {
        Bounds.stays("a question", QuestionBoundsTest::lived, x -> Check.ask(x, "total likes 2+knows 0"), 14, -1);
        Bounds.stays("a test", QuestionBoundsTest::lived, x -> Check.ask(x, "first not [not number=3]"), 3, -1);
        Bounds.stays("a FAULT", QuestionBoundsTest::lived, x -> Check.ask(x, "total (((((((1"), ClothWedding.NOTHING, -1);
        Bounds.stays("no tape", QuestionBoundsTest::lived, x -> x.ask(), ClothWedding.NOTHING, -1);
    }

    private static void fullTape() {
        ClothWedding x = Bounds.church(6, 6, "");
        due(x, "total 1" + " ".repeat(1593), 12);
        due(x, "total " + "1+".repeat(796) + "01", 12 * 797);
        due(x, "total " + "1-".repeat(796) + "01", -12 * 795);
        due(x, "often " + "all and ".repeat(198) + "all", 12);
        due(x, "most " + "likes 1+".repeat(198) + "likes 1", 995);
        Check.askFault(x, "total 1" + " ".repeat(1592) + "x", 1, 1599);
        Check.askFault(x, "total " + "9".repeat(1594), 1, 10);
        Check.askFault(x, "z".repeat(1600), 1, 0);
    }
}
