/** Promise 31: ask, its answers and its FAULTS (5). */
public final class QuestionTest {
    public static void main(String[] args) {
        answers();
        values();
        nobody();
        faults();
        Check.finish("QuestionTest");
    }

    private static ClothWedding church() {
        return Check.church("left a warm 1 work 2 size 3;left b warm 4 work 5 size 6;right c warm 7 work 8 size 9;"
            + "likes a c 7;likes c a 2;knows a c 4;knows c b 6;rounds 2;lets not[known>3 and liking>5 or known>5 or liking<3];");
    }

    private static void due(ClothWedding x, String text, long due) {
        Check.due(text, Check.ask(x, text), due);
        Check.due("fault of " + text, x.fault(0), 0);
        Check.due("place of " + text, x.fault(1), -1);
    }

    private static void answers() {
        ClothWedding x = church();
        due(x, "first warm>3", 1);
        due(x, "last warm<7", 1);
        due(x, "often warm>0", 3);
        due(x, "often not warm>3", 1);
        due(x, "first warm=9", -1);
        due(x, "last warm=9", -1);
        due(x, "often warm=9", 0);
        due(x, "first all", 0);
        due(x, "last all", 2);
        due(x, "last [all]", 2);
        due(x, "total warm", 12);
        due(x, "total work", 15);
        due(x, "total size", 18);
        due(x, "most warm-work*2", -3);
        due(x, "least warm-work*2", -9);
        due(x, "most 0-number", 0);
        due(x, "total 0-1", -3);
        due(x, "total 9999*9999", 3000000);
        due(x, "total 0-9999*9999", -3000000);
        due(x, " \ntotal\nwarm \n", 12);
    }

    private static void values() {
        ClothWedding x = church();
        due(x, "total number", 3);
        due(x, "total side", 1);
        due(x, "first side=1", 2);
        due(x, "total likes 2", 12);
        due(x, "total likes 0", 2);
        due(x, "total likes(0)+likes 1", 7);
        due(x, "total knows 2", 4);
        due(x, "total knows 1", 6);
        due(x, "most likes likes 2", 2);
        due(x, "total likes 3", 0);
        due(x, "total likes(0-1)", 0);
        due(x, "total likes 9999", 0);
        due(x, "total likes 2*2", 24);
        due(x, "total likes number", 0);
        due(x, "most likes(2-number)", 7);
        due(x, "most min(likes 2,6)", 6);
        due(x, "total spring*100+round*10+wed", 0);
        Check.due("wed", x.rounds(1), 1);
        due(x, "total spring*100+round*10+wed", 32);
        due(x, "first wed=0", 1);
        x.rounds(1);
        due(x, "total spring*100+round*10+wed", 302);
        due(x, "total waited", 1);
        due(x, "first waited>0", 1);
        due(x, "often wed=1 and waited=0", 2);
        Check.due("questions are no acts", x.has(9), 2);
    }

    private static void nobody() {
        ClothWedding x = new ClothWedding();
        due(x, "first all", -1);
        due(x, "last all", -1);
        due(x, "often all", 0);
        due(x, "total 5", 0);
        due(x, "most 5", 0);
        due(x, "least 5", 0);
        due(x, "least 0-5", 0);
    }

    private static void faults() {
        ClothWedding x = church();
        Check.askFault(x, "", 1, 0);
        Check.askFault(x, "  ", 1, 2);
        Check.askFault(x, "firs all", 1, 0);
        Check.askFault(x, "left all", 1, 0);
        Check.askFault(x, "first", 1, 5);
        Check.askFault(x, "first warm", 1, 10);
        Check.askFault(x, "first 5", 1, 7);
        Check.askFault(x, "first5<6", 1, 5);
        Check.askFault(x, "first all;", 1, 9);
        Check.askFault(x, "first all all", 1, 10);
        Check.askFault(x, "total warm x", 1, 11);
        Check.askFault(x, "total warm 5", 1, 11);
        Check.askFault(x, "total 5x", 1, 7);
        Check.askFault(x, "total warm<5", 1, 10);
        Check.askFault(x, "total liking", 1, 6);
        Check.askFault(x, "total known", 1, 6);
        Check.askFault(x, "total feel", 1, 6);
        Check.askFault(x, "total a", 1, 6);
        Check.askFault(x, "total 1+", 1, 8);
        Check.askFault(x, "total 12345", 1, 10);
        Check.askFault(x, "total likes", 1, 11);
        Check.askFault(x, "total likes2", 1, 11);
        Check.askFault(x, "total likes+2", 1, 11);
        Check.askFault(x, "total likeswarm", 1, 6);
        Check.askFault(x, "total likes likes likes likes likes likes likes 1", 4, 42);
        due(x, "total likes likes likes likes likes likes 1", 0);
        due(x, "total likes likes likes likes likes likes 1+likes likes likes likes likes likes 1", 0);
        Check.askFault(x, "total likes(knows((1))+((1))+(((((1))))))", 4, 33);
        Check.askFault(x, "first not not not not not likes knows 1=1", 4, 32);
        due(x, "often not not not not not likes 1=knows 1", 1);
        Check.askFault(x, "often [[[[[[[all]]]]]]]", 4, 12);
        Check.askFault(x, "most ((((((min(1,2)))))))", 4, 14);
        Check.due("none is refused", x.status(1), 0);
    }
}
