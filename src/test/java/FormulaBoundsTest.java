/** TEST and SUM of "Terms" I at their bounds: values, what is open at once, which words stand where. */
public final class FormulaBoundsTest {
    public static void main(String[] args) {
        numbers();
        wholeNumbersNotAbove();
        byNought();
        sumsHeld();
        differencesHeld();
        productsHeld();
        fromTheLeftOn();
        lessAndMore();
        facts();
        sixOpen();
        notUntilItsFactEnds();
        othersUntilTheyEnd();
        feltFromNoughtTo99();
        learntFromNoughtToNine();
        wordsOfEach();
        whatIsMissing();
        Check.finish("FormulaBoundsTest");
    }

    private static void due(String sum, long due) {
        Check.due(sum, Bounds.value(sum), due);
    }

    private static void holds(String test, boolean due) {
        Check.due(test, Check.ask(Bounds.church(1, 0, ""), "often " + test), due ? 1 : 0);
    }

    /** "N (1 to 4 digits)" */
    private static void numbers() {
        due("0", 0);
        due("9", 9);
        due("0000", 0);
        due("0001", 1);
        due("9999", 9999);
        due("1234", 1234);
        Check.churchSound("feels 9999;", 1);
        Check.churchFault("feels 10000;", 1, 10);
        Check.churchFault("feels 00000;", 1, 10);
        Check.churchFault("feels 1+99999;", 1, 12);
        Check.churchFault("lets 99999<1;", 1, 9);
        Check.churchFault("feels ;", 1, 6);
        ClothWedding x = new ClothWedding();
        Check.askFault(x, "total 00000", 1, 10);
        Check.askFault(x, "total likes 99999", 1, 16);
    }

    /** "/ gives the greatest whole number not above" */
    private static void wholeNumbersNotAbove() {
        due("6/3", 2);
        due("7/3", 2);
        due("8/3", 2);
        due("9/3", 3);
        due("0/3", 0);
        due("2/3", 0);
        due("(0-1)/3", -1);
        due("(0-3)/3", -1);
        due("(0-4)/3", -2);
        due("4/(0-3)", -2);
        due("3/(0-3)", -1);
        due("(0-4)/(0-3)", 1);
        due("(0-2)/(0-3)", 0);
        due("1/(0-9999)", -1);
        due("(0-1000*1000)/(0-1)", 1000000);
        due("1000*1000/(0-1)", -1000000);
        due("1000*1000/1", 1000000);
    }

    /** "by 0 it gives 0" */
    private static void byNought() {
        due("5/0", 0);
        due("0/0", 0);
        due("(0-5)/0", 0);
        due("1000*1000/0", 0);
        due("5/(3-3)", 0);
        due("5/0+7", 7);
        due("5/0*7", 0);
        due("(1/2)/(1/2)", 0);
    }

    /** "each sum .. above 10 to the 6 is that, below -10 to the 6 likewise" */
    private static void sumsHeld() {
        due("999*1000+999", 999999);
        due("999*1000+1000", 1000000);
        due("999*1000+1001", 1000000);
        due("1000*1000+1", 1000000);
        due("1000*1000+9999", 1000000);
        due("1000*1000+1-1", 999999);
        due("1000*1000+1000*1000-9999", 990001);
        due("(0-1000*1000)+(0-1)", -1000000);
        due("(0-999*1000)+(0-999)", -999999);
        due("(0-999*1000)+(0-1000)", -1000000);
        due("(0-999*1000)+(0-1001)", -1000000);
        due("(0-1000*1000)+(0-1)+1", -999999);
    }

    private static void differencesHeld() {
        due("0-999*1000-999", -999999);
        due("0-999*1000-1000", -1000000);
        due("0-999*1000-1001", -1000000);
        due("0-1000*1000-9999", -1000000);
        due("0-1000*1000-1+1", -999999);
        due("999*1000-(0-999)", 999999);
        due("999*1000-(0-1000)", 1000000);
        due("999*1000-(0-1001)", 1000000);
        due("1000*1000-(0-1)-1", 999999);
        due("5-5", 0);
        due("4-5", -1);
    }

    private static void productsHeld() {
        due("1000*1000", 1000000);
        due("999*1001", 999999);
        due("1001*999+1", 1000000);
        due("1000*1001", 1000000);
        due("9999*9999", 1000000);
        due("9999*9999-1", 999999);
        due("(0-1000)*1000", -1000000);
        due("(0-999)*1001", -999999);
        due("(0-1001)*1000", -1000000);
        due("(0-9999)*9999+1", -999999);
        due("(0-9999)*(0-9999)", 1000000);
        due("1000*1000*1000*1000/1000", 1000);
        due("9999*9999*9999*9999*9999*9999", 1000000);
        due("9999*9999*9999*(0-1)", -1000000);
        due("0*9999", 0);
    }

    /** "All from the left on" */
    private static void fromTheLeftOn() {
        due("10-4-3", 3);
        due("10-4+3", 9);
        due("100/10/2", 5);
        due("7/2*2", 6);
        due("2*7/2", 7);
        due("2+3*4", 14);
        due("2*3+4", 10);
        due("20-6/3", 18);
        due("9-(4-3)", 8);
        due("8/(4/2)", 4);
        holds("all or all and not all", true);
        holds("not all and all or all", true);
        holds("[all or all] and not all", false);
        holds("not all and not all or all and all", true);
        holds("not all or all and not all", false);
    }

    private static void lessAndMore() {
        due("min(3,4)", 3);
        due("min(4,3)", 3);
        due("max(3,4)", 4);
        due("max(4,3)", 4);
        due("min(3,3)", 3);
        due("max(3,3)", 3);
        due("min(0-3,0-4)", -4);
        due("max(0-3,0-4)", -3);
        due("min(0-1000*1000,1000*1000)", -1000000);
        due("max(0-1000*1000,1000*1000)", 1000000);
        due("min(1,2)*max(3,4)", 4);
    }

    /** "FACT: not FACT; [ TEST ] ; all; SUM SIGN SUM", each SIGN on both sides of its bound */
    private static void facts() {
        holds("all", true);
        holds("not all", false);
        holds("not not all", true);
        holds("4<5", true);
        holds("5<5", false);
        holds("6<5", false);
        holds("4>5", false);
        holds("5>5", false);
        holds("6>5", true);
        holds("4=5", false);
        holds("5=5", true);
        holds("6=5", false);
        holds("0-1<0", true);
        holds("not 4<5 or 4>5", false);
        holds("not [4<5 and 4>5]", true);
        holds("all and all", true);
        holds("all and not all", false);
        holds("not all and all", false);
        holds("not all and not all", false);
        holds("all or not all", true);
        holds("not all or all", true);
        holds("not all or not all", false);
    }

    /** "4 the 7th of ( [ not that is open at once .. at it" */
    private static void sixOpen() {
        for (String formula : new String[] {"feels ", "learns "}) {
            int at = formula.length();
            Check.churchSound(formula + "(".repeat(6) + "1" + ")".repeat(6) + ";", 1);
            Check.churchFault(formula + "(".repeat(7) + "1" + ")".repeat(7) + ";", 4, at + 6);
            Check.churchFault(formula + "( ".repeat(7) + "1", 4, at + 12);
            Check.churchFault(formula + "(".repeat(8) + "1", 4, at + 6);
            Check.churchSound(formula + "((((( max (1,2) )))));", 1);
            Check.churchFault(formula + "(((((( max (1,2) ))))));", 4, at + 11);
            Check.churchFault(formula + "((((((max", 1, at + 9);
            Check.churchSound(formula + "min(min(min(min(min(min(1,2),3),4),5),6),7);", 1);
            Check.churchFault(formula + "min(min(min(min(min(min(min(1,2),3),4),5),6),7),8);", 4, at + 27);
            Check.churchSound(formula + "min(1,min(2,min(3,min(4,min(5,min(6,7))))));", 1);
            Check.churchFault(formula + "min(1,min(2,min(3,min(4,min(5,min(6,(7)))))));", 4, at + 36);
            Check.churchFault(formula + "((((((1", 1, at + 7);
        }
        Check.churchSound("lets not not not not not not all;", 1);
        Check.churchFault("lets not not not not not not not all;", 4, 29);
        Check.churchFault("lets not not not not not not not", 4, 29);
        Check.churchSound("lets [[[[[[all]]]]]];", 1);
        Check.churchFault("lets [[[[[[[all]]]]]]];", 4, 11);
        Check.churchFault("lets [[[[[[[", 4, 11);
        Check.churchSound("lets not [not [not [all]]];", 1);
        Check.churchFault("lets not [not [not [not all]]];", 4, 20);
        Check.churchFault("lets not [not [not [[all]]]];", 4, 20);
        Check.churchFault("lets not [not [not [(1)<2]]];", 4, 20);
        Check.churchSound("lets not [not [not [1<2]]];", 1);
        Check.churchFault("lets not [not [not [1<2 or 1<(2)]]];", 4, 29);
        Check.churchFault("lets [[[[[[1<2 and not all]]]]]];", 4, 19);
        Check.churchSound("lets not not not not not (1)<(2);", 1);
        Check.churchFault("lets not not not not not not 1<(2);", 4, 31);
        Check.churchFault("lets not not not not not not min(1,2)<3;", 4, 32);
        ClothWedding x = Bounds.church(1, 1, "");
        Check.due("six of likes knows", Check.ask(x, "total likes knows likes knows likes knows 1"), 5);
        Check.askFault(x, "total likes knows likes knows likes knows likes 1", 4, 42);
        Check.askFault(x, "total likes(knows(likes(knows 1)))", 4, 24);
        Check.due("likes(knows(likes(", Check.ask(x, "total likes(knows(likes(1)))"), 5);
        Check.askFault(x, "first not [likes (likes (knows 1))=1]", 4, 25);
        Check.askFault(x, "first not [likes (likes (1))=knows (likes (likes 1))]", 4, 43);
    }

    /** "(not until its FACT ends)" */
    private static void notUntilItsFactEnds() {
        Check.churchSound("lets not not not not not not all and not not not not not not all or not not not not not not all;", 1);
        Check.churchSound("lets not not not not not not 1<2 and [[[[[[1<2]]]]]];", 1);
        Check.churchSound("lets [not not not not not all and not not not not not all];", 1);
        Check.churchFault("lets [not not not not not all and not not not not not not all];", 4, 54);
        Check.churchFault("lets not not not not [1<(2)] and not not not not not [1<(2)];", 4, 56);
        Check.churchSound("lets not not not not [1<(2)] and not not not not [1<(2)];", 1);
    }

    private static void othersUntilTheyEnd() {
        Check.churchSound("feels ((((((1))))))+((((((1))))))*((((((1))))));", 1);
        Check.churchSound("feels (((((min(1,2)+min(1,2))))));", 1);
        Check.churchSound("lets [[[[[[all]]]]]] or [[[[[[all]]]]]];", 1);
        Check.churchSound("lets ((((((1))))))<((((((2))))));", 1);
        ClothWedding x = Bounds.church(1, 1, "");
        String six = "likes likes likes likes likes likes 1";
        Check.due("until its PART ends", Check.ask(x, "total " + six + "+" + six), 10);
        Check.due("until its PART ends", Check.ask(x, "most min(likes likes likes likes likes 1,likes(likes likes 1))"), 0);
        Check.askFault(x, "most min(1,likes likes likes likes likes (1))", 4, 41);
    }

    private static void feels(String sum, int due) {
        Check.due("feels " + sum, Bounds.church(1, 1, "feels " + sum + ";").pair(0, 1, 2), due);
    }

    /** "A hand FEELS to who holds it as the SUM of feels tells, 0 .. 99 (below is 0, above 99)." */
    private static void feltFromNoughtTo99() {
        feels("0-1000*1000", 0);
        feels("0-1", 0);
        feels("0", 0);
        feels("1", 1);
        feels("98", 98);
        feels("99", 99);
        feels("100", 99);
        feels("1000*1000", 99);
        Check.due("so it is let go by", Bounds.church(1, 1, "feels 100;lets feel=99;").pair(0, 1, 3), 1);
        Check.due("so it is let go by", Bounds.church(1, 1, "feels 0-1;lets feel=0;").pair(0, 1, 3), 1);
        Check.due("so it is learnt by", learnt("feels 200;learns feel-95;"), 4);
        Check.due("so it is learnt by", learnt("feels 0-200;learns feel+4;"), 4);
    }

    private static int learnt(String more) {
        ClothWedding x = Bounds.church(1, 1, "lets all;" + (more.startsWith("feels") ? more : "learns " + more + ";"));
        x.rounds(1);
        return x.pair(0, 1, 1);
    }

    /** "as the SUM of learns tells then .. 0 .. 9 (below is 0, above 9)" */
    private static void learntFromNoughtToNine() {
        Check.due("least", learnt("0-1000*1000"), 0);
        Check.due("-1", learnt("0-1"), 0);
        Check.due("0", learnt("0"), 0);
        Check.due("1", learnt("1"), 1);
        Check.due("8", learnt("8"), 8);
        Check.due("9", learnt("9"), 9);
        Check.due("10", learnt("10"), 9);
        Check.due("most", learnt("1000*1000"), 9);
        ClothWedding x = Bounds.church(1, 1, "lets all;knows la ra 8;knows ra la 9;");
        x.rounds(1);
        Check.due("9 of 8", x.pair(0, 1, 1), 9);
        Check.due("9 of 9", x.pair(1, 0, 1), 9);
        ClothWedding y = Bounds.church(1, 1, "lets all;learns known-1;knows la ra 1;");
        y.rounds(1);
        Check.due("0 of 1", y.pair(0, 1, 1), 0);
        Check.due("0 of 0", y.pair(1, 0, 1), 0);
    }

    /** "known; spring; .. in feels: warm; work; size; in feels, lets: liking; in lets, learns: feel; in lets: round; waited." */
    private static void wordsOfEach() {
        String church = "left a warm 1 work 2 size 3;right b warm 4 work 5 size 6;likes a b 7;knows a b 8;rounds 2;";
        String[] words = {"known", "spring", "warm", "work", "size", "liking", "feel", "round", "waited"};
        int[] due = {8, 3, 4, 5, 6, 7, 50, 1, 3};
        for (int i = 0; i < words.length; i++) {
            if (i < 6) {
                ClothWedding x = Check.church(church + "lets all;learns known;feels " + words[i] + ";");
                x.rounds(7);
                Check.due("feels " + words[i], x.pair(0, 1, 2), due[i]);
            } else {
                Check.churchFault("feels " + words[i] + ";", 1, 6);
            }
            if (i < 2 || i > 4) {
                ClothWedding x = Check.church(church + "feels 50;learns known;lets spring<3 or round<1 or "
                    + words[i] + "=" + due[i] + ";");
                x.rounds(7);
                Check.due("lets " + words[i], x.pair(0, 1, 3), 1);
            } else {
                Check.churchFault("lets " + words[i] + "=1;", 1, 5);
            }
            if (i < 2 || i == 6) {
                ClothWedding x = Check.church(church + "feels 50;lets all;learns " + words[i] + "/9+1;knows a b 9;");
                x.rounds(1);
                Check.due("learns " + words[i], x.pair(0, 1, 1), i == 0 ? 2 : i == 1 ? 1 : 6);
            } else {
                Check.churchFault("learns " + words[i] + ";", 1, 7);
            }
        }
    }

    /** "1 the first byte with which no such text goes on": SIGNS, commas and brackets that are not there. */
    private static void whatIsMissing() {
        Check.churchFault("lets 1 2;", 1, 7);
        Check.churchFault("lets (1)(2);", 1, 8);
        Check.churchFault("lets (1)known;", 1, 8);
        Check.churchFault("lets known[all];", 1, 10);
        Check.churchFault("lets 1<;", 1, 7);
        Check.churchFault("lets <1;", 1, 5);
        Check.churchFault("lets 1<=2;", 1, 7);
        Check.churchFault("lets 1>=2;", 1, 7);
        Check.churchFault("lets 1==2;", 1, 7);
        Check.churchFault("lets 1!2;", 1, 6);
        Check.churchFault("lets [all all];", 1, 10);
        Check.churchFault("lets [all);", 1, 9);
        Check.churchFault("lets [];", 1, 6);
        Check.churchFault("lets ];", 1, 5);
        Check.churchFault("lets and all;", 1, 5);
        Check.churchFault("lets or all;", 1, 5);
        Check.churchFault("lets all not all;", 1, 9);
        Check.churchFault("feels min(1 2);", 1, 12);
        Check.churchFault("feels min((1)(2));", 1, 13);
        Check.churchFault("feels min(1);", 1, 11);
        Check.churchFault("feels min(,1);", 1, 10);
        Check.churchFault("feels min(1,);", 1, 12);
        Check.churchFault("feels min(1,2,3);", 1, 13);
        Check.churchFault("feels max[1,2];", 1, 9);
        Check.churchFault("feels min;", 1, 9);
        Check.churchFault("feels ();", 1, 7);
        Check.churchFault("feels (1];", 1, 8);
        Check.churchFault("feels (1<2);", 1, 8);
        Check.churchFault("feels 1(2);", 1, 7);
        Check.churchFault("feels +1;", 1, 6);
        Check.churchFault("feels 1+-1;", 1, 8);
        Check.churchFault("feels 1%2;", 1, 7);
        Check.churchFault("feels all;", 1, 6);
        Check.churchFault("feels 1,2;", 1, 7);
        ClothWedding x = Bounds.church(1, 1, "");
        Check.askFault(x, "first 1 2", 1, 8);
        Check.askFault(x, "first (1)(2)", 1, 9);
        Check.askFault(x, "total min(1 2)", 1, 12);
        Check.askFault(x, "total likes()", 1, 12);
        Check.askFault(x, "total likes(1", 1, 13);
        Check.askFault(x, "total likes(1,2)", 1, 13);
    }
}
