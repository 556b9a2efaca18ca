/** Promises 20 to 22 at their bounds: rows SEEN, SIZES, TELLING. */
public final class SizesBoundsTest {
    private static final int[] ODD = {Integer.MIN_VALUE, -1000, -2, -1, 1000, Integer.MAX_VALUE};

    public static void main(String[] args) {
        oneToSixteenRows();
        threeBytesEach();
        whatARowTells();
        oneWrongRow();
        seenAnew();
        seenGoesWithTheChurch();
        refusedSeeLeavesAll();
        noughtToNine();
        byNothingSeen();
        seenNow();
        seenInTheThirtieth();
        sizesAtTheEnd();
        sizesOfOthers();
        toldInTheThirtieth();
        firstOfLikeTellings();
        withoutSizes();
        tellingAtTheEnd();
        tellsOfOthers();
        Check.finish("SizesBoundsTest");
    }

    private static int[] rows(int many) {
        int[] rows = new int[3 * many];
        for (int i = 0; i < many; i++) {
            rows[3 * i] = i % 31;
        }
        return rows;
    }

    /** Two who are wed behind last - 1 ROUNDS more than his hand's size is below 9: the left one's hand tells nothing. */
    private static ClothWedding bySize(int last) {
        return Check.church("left a warm 0 work 0 size 9;right b warm 0 work 0 size 9;rounds 1;learns known;knows b a 9;"
            + "feels size+spring;lets feel<" + (last + 8) + " and known<9;");
    }

    /** "1 to 16 rows of three bytes: how many rows; NONE, refused (1) .. when it is none such" */
    private static void oneToSixteenRows() {
        ClothWedding x = Bounds.church(1, 1, "");
        Check.due("no row", Bounds.see(x), -1);
        Check.due("none SEEN", x.has(8), 0);
        for (int many = 1; many <= 16; many++) {
            Check.due(many + " rows", Bounds.see(x, rows(many)), many);
            Check.due(many + " SEEN", x.has(8), many);
        }
        Check.due("17 rows", Bounds.see(x, rows(17)), -1);
        Check.due("all of the tape", Bounds.see(x, rows(533)), -1);
        Check.due("16 stay", x.has(8), 16);
        Check.due("refused", x.status(1), 3);
        Check.due("no FAULT", x.fault(0), 0);
    }

    private static void threeBytesEach() {
        ClothWedding x = Bounds.church(1, 1, "");
        for (int bytes = 0; bytes <= 52; bytes++) {
            boolean rows = bytes % 3 == 0 && bytes >= 3 && bytes <= 48;
            Check.due(bytes + " bytes", Bounds.see(x, new int[bytes]), rows ? bytes / 3 : -1);
            Check.due("SEEN by " + bytes + " bytes", x.has(8), bytes < 3 ? 0 : Math.min(bytes / 3, 16));
        }
    }

    /** "rows of ROUNDS AHEAD (0 .. 30), one of the PEOPLE, 1 if he is WED behind these, else 0" */
    private static void whatARowTells() {
        ClothWedding x = Bounds.church(2, 1, "");
        for (int b : new int[] {0, 1, 2, 3, 29, 30, 31, 32, 127, 128, 254, 255}) {
            Check.due("ROUNDS " + b, Bounds.see(x, b, 0, 0), b <= 30 ? 1 : -1);
            Check.due("one " + b, Bounds.see(x, 0, b, 0), b <= 2 ? 1 : -1);
            Check.due("WED " + b, Bounds.see(x, 0, 0, b), b <= 1 ? 1 : -1);
        }
        ClothWedding y = Bounds.church(6, 6, "");
        Check.due("the twelfth", Bounds.see(y, 30, 11, 1), 1);
        Check.due("a thirteenth", Bounds.see(y, 30, 12, 1), -1);
        Check.due("without PEOPLE", Bounds.see(new ClothWedding(), 0, 0, 0), -1);
    }

    private static void oneWrongRow() {
        ClothWedding x = Bounds.church(1, 1, "");
        Bounds.see(x, 7, 1, 0);
        for (int at = 0; at < 48; at++) {
            int[] rows = rows(16);
            rows[at] = at % 3 == 0 ? 31 : 2;
            Check.due("byte " + at, Bounds.see(x, rows), -1);
        }
        Check.due("the one row stays", x.has(8), 1);
        Check.due("refused", x.status(1), 48);
    }

    /** "The tape (it goes) tells what is SEEN": what was SEEN ahead of it is no more. */
    private static void seenAnew() {
        ClothWedding x = bySize(1);
        Bounds.see(x, 1, 0, 1, 5, 1, 1);
        Check.due("9 by two rows", x.sizes(1), 512);
        Bounds.see(x, 4, 0, 0);
        Check.due("0 to 5 by another", x.sizes(1), 63);
        Check.due("one row", x.has(8), 1);
        Bounds.see(x, 31, 0, 0);
        Check.due("0 to 5 stay", x.sizes(1), 63);
        Bounds.see(x, 5, 0, 1);
        Check.due("5 to 9", x.sizes(1), 992);
        Bounds.see(x, 5, 0, 1, 4, 0, 0);
        Check.due("5", x.sizes(1), 32);
    }

    private static void seenGoesWithTheChurch() {
        ClothWedding x = bySize(1);
        Bounds.see(x, 1, 0, 1);
        Check.tape(x, "oops");
        x.church();
        Check.due("stays behind a FAULT", x.sizes(1), 512);
        Check.tape(x, Check.image(x));
        x.on();
        Check.due("stays behind on()", x.sizes(1), 512);
        x.rounds(1);
        x.undo();
        Check.due("stays behind undo()", x.sizes(1), 512);
        Check.tape(x, Bounds.people(1, 1));
        x.church();
        Check.due("none SEEN", x.has(8), 0);
        Check.due("all SIZES", x.sizes(1), 1023);
    }

    private static ClothWedding lived() {
        ClothWedding x = Bounds.church(2, 2, "slip 30;feels size+known+liking;");
        x.rounds(5);
        x.image();
        Bounds.see(x, 3, 0, 1);
        return x;
    }

    private static void refusedSeeLeavesAll() {
        Bounds.stays("see of nothing", SizesBoundsTest::lived, x -> x.see(), -1, 1);
        Bounds.stays("see of 31", SizesBoundsTest::lived, x -> Bounds.see(x, 31, 0, 0), -1, 1);
        Bounds.stays("see of nobody", SizesBoundsTest::lived, x -> Bounds.see(x, 2, 0, 0, 3, 4, 0), -1, 1);
        Bounds.stays("see of four bytes", SizesBoundsTest::lived, x -> Bounds.see(x, 2, 0, 0, 3), -1, 1);
        Bounds.stays("sizes", SizesBoundsTest::lived, x -> x.sizes(0) > 0 ? 1 : 0, 1, -1);
        Bounds.stays("sizes of nobody", SizesBoundsTest::lived, x -> x.sizes(4), -1, -1);
        Bounds.stays("tells", SizesBoundsTest::lived, x -> x.tells(3, 0) > 0 ? 1 : 0, 1, -1);
        Bounds.stays("tells of nobody", SizesBoundsTest::lived, x -> x.tells(4, 0), -1, -1);
        ClothWedding x = lived();
        Check.ask(x, "total 12345");
        x.see();
        Check.due("the FAULT of ask() stays", x.fault(0), 1);
        Check.due("its place, too", x.fault(1), 10);
    }

    /** "SIZES (0 .. 9) are those that the hand of a told one can have, so that all is so", "as bits" */
    private static void noughtToNine() {
        for (int size = 0; size <= 9; size++) {
            ClothWedding x = bySize(1);
            Check.due("size " + size, Bounds.see(x, 10 - size, 0, 1, 9 - size, 1, 0), 2);
            Check.due("bit " + size, x.sizes(1), 1 << size);
            Check.due("his own size stays", x.person(1, 2), 9);
        }
        ClothWedding x = bySize(1);
        Bounds.see(x, 10, 0, 0);
        Check.due("less than 0 is none", x.sizes(1), 0);
        Bounds.see(x, 1, 0, 0);
        Check.due("all but 9", x.sizes(1), 511);
        Bounds.see(x, 10, 0, 1);
        Check.due("0, too", x.sizes(1), 1023);
        Bounds.see(x, 9, 0, 1);
        Check.due("all but 0", x.sizes(1), 1022);
    }

    /** "(all, if nothing is ..)" */
    private static void byNothingSeen() {
        ClothWedding x = Bounds.church(6, 6, "lets not all;");
        for (int p = 0; p < 12; p++) {
            Check.due("all of " + p, x.sizes(p), 1023);
        }
        x.rounds(1);
        Check.due("all of one who is wed", x.sizes(0), 1023);
    }

    private static void seenNow() {
        ClothWedding x = bySize(1);
        Bounds.see(x, 0, 0, 0);
        Check.due("not wed now", x.sizes(1), 1023);
        Bounds.see(x, 0, 0, 1);
        Check.due("wed now", x.sizes(1), 0);
        x.rounds(1);
        Check.due("wed now", x.sizes(1), 1023);
        Bounds.see(x, 0, 1, 0);
        Check.due("no more", x.sizes(1), 0);
        x.part(0);
        Check.due("parted", x.sizes(1), 1023);
    }

    private static void seenInTheThirtieth() {
        ClothWedding x = bySize(30);
        Bounds.see(x, 30, 0, 1);
        Check.due("9 is wed in the thirtieth", x.sizes(1), 512);
        Bounds.see(x, 30, 0, 0);
        Check.due("the others not", x.sizes(1), 511);
        Bounds.see(x, 29, 0, 0);
        Check.due("none in the twenty-ninth", x.sizes(1), 1023);
        Bounds.see(x, 29, 0, 1);
        Check.due("none in the twenty-ninth", x.sizes(1), 0);
    }

    /** "ROUNDS beyond SPRING 999 are by none" */
    private static void sizesAtTheEnd() {
        ClothWedding x = Bounds.church(1, 1, "rounds 1;lets all;");
        for (int left : new int[] {0, 1, 29, 30, 31}) {
            Bounds.at(x, 999 - left, 0);
            for (int n : new int[] {0, left, left + 1, 30}) {
                if (n <= 30) {
                    Bounds.see(x, n, 0, 0);
                    Check.due(n + " of " + left, x.sizes(0), n <= left ? 1023 : 0);
                    Bounds.see(x, 0, 0, 0, n, 1, 0);
                    Check.due(n + " of " + left + " behind 0", x.sizes(0), n <= left ? 1023 : 0);
                }
            }
        }
        Bounds.at(x, 999, 0);
        Bounds.see(x, 1, 0, 1);
        Check.due("by none", x.sizes(0), 0);
    }

    private static void sizesOfOthers() {
        ClothWedding x = bySize(1);
        Check.due("the last one", x.sizes(1), 1023);
        Check.due("beyond", x.sizes(2), -1);
        for (int odd : ODD) {
            Check.due("sizes of " + odd, x.sizes(odd), -1);
        }
        Bounds.see(x, 1, 0, 1);
        Check.due("whose hand tells nothing", x.sizes(0), 1023);
        Bounds.see(x, 1, 0, 0);
        Check.due("nor when it is not so", x.sizes(0), 0);
    }

    private static void tells(String what, ClothWedding x, int one, int... due) {
        int[] got = new int[5];
        int[] want = new int[5];
        for (int k = -1; k < 4; k++) {
            got[k + 1] = x.tells(one, k);
            want[k + 1] = k >= 0 && k < 3 ? due[k] : -1;
        }
        Bounds.due("tells " + what, got, want);
    }

    /** "TELLING is the number of ROUNDS AHEAD (1 .. 30)" */
    private static void toldInTheThirtieth() {
        tells("from the first on", bySize(1), 1, 5, 0, 5);
        tells("by the last", bySize(30), 1, 30, 0, 9);
        tells("nothing by the thirty-first", bySize(31), 1, 1, 0, 10);
        tells("by the twenty-ninth and thirtieth", bySize(29), 1, 30, 0, 8);
        ClothWedding x = bySize(1);
        Bounds.see(x, 1, 0, 1);
        tells("one is left", x, 1, 1, 0, 1);
        Bounds.see(x, 8, 0, 0);
        tells("0 or 1", x, 1, 9, 0, 1);
        Bounds.see(x, 7, 0, 0);
        tells("0 to 2", x, 1, 8, 0, 2);
    }

    /** "of like ones the first, ROUND by ROUND, one by one" */
    private static void firstOfLikeTellings() {
        tells("one whose hand is no matter", Bounds.church(2, 2, "lets not all;"), 3, 1, 0, 10);
        String two = "left a warm 0 work 0 size 9;left b warm 0 work 0 size 9;right c warm 0 work 0 size 9;rounds 2;learns known;"
            + "knows c a 9;knows c b 9;feels size+spring;lets feel<12 and known<9;";
        // b holds c in ROUND 1 of each SPRING, a in ROUND 0: from SPRING 3 on 9 would hold a, which is first.
        ClothWedding x = Check.church(two + "kin a c;");
        tells("b ahead of c", x, 2, 16, 1, 5);
        ClothWedding y = Check.church(two);
        tells("a ahead of c", y, 2, 15, 0, 5);
        y.swap(0, 0, 1);
        tells("b, for he is first", y, 2, 15, 1, 5);
    }

    /** "NONE without any, when no ROUND comes, there is none such, or for others." */
    private static void withoutSizes() {
        ClothWedding x = bySize(1);
        Bounds.see(x, 0, 0, 1);
        tells("without any", x, 1, -1, -1, -1);
        tells("without any", x, 0, -1, -1, -1);
        Bounds.see(x, 0, 0, 0);
        tells("with all", x, 1, 5, 0, 5);
    }

    private static void tellingAtTheEnd() {
        ClothWedding x = Check.church("left a warm 0 work 0 size 9;right b warm 0 work 0 size 9;rounds 1;learns known;knows b a 9;"
            + "feels size+spring-990;lets feel<12 and known<9;");
        Bounds.at(x, 999, 0);
        tells("no ROUND comes", x, 1, -1, -1, -1);
        Bounds.at(x, 998, 0);
        tells("one comes", x, 1, 1, 0, 6);
        Bounds.at(x, 994, 0);
        tells("five come", x, 1, 4, 0, 5);
        Bounds.at(x, 992, 0);
        tells("seven come", x, 1, 6, 0, 5);
        Bounds.at(x, 969, 0);
        tells("thirty come", x, 1, 29, 0, 5);
        Bounds.at(x, 968, 0);
        tells("the thirtieth", x, 1, 30, 0, 5);
        Bounds.at(x, 967, 0);
        tells("thirty-one and more are not told", x, 1, 30, 0, 6);
        Bounds.see(x, 20, 0, 0);
        tells("behind what is SEEN", x, 1, 30, 0, 6);
        Bounds.see(x, 30, 0, 0);
        tells("nothing more", x, 1, 1, 0, 6);
    }

    private static void tellsOfOthers() {
        ClothWedding x = Bounds.church(6, 6, "");
        Check.due("the last one", x.tells(11, 2), 10);
        Check.due("beyond", x.tells(12, 2), -1);
        for (int odd : ODD) {
            Check.due("tells of " + odd, x.tells(odd, 0), -1);
            Check.due("what " + odd, x.tells(0, odd), -1);
        }
        Check.due("without PEOPLE", new ClothWedding().tells(0, 0), -1);
    }
}
