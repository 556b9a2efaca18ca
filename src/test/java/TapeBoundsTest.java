/** Promises 1, 2, 3 at their bounds: what the tape takes, and what it does not. */
public final class TapeBoundsTest {
    private static final String ONE = "left a warm 7 work 0 size 0;";

    public static void main(String[] args) {
        noChurchNobody();
        room();
        refusedFeedLeavesTheTape();
        behindThoseOnTheTape();
        highestFirst();
        endTakesNoneToAll();
        refusedEndLeavesTheTape();
        refusedCallsLeaveAllElse();
        theTapeBeginsAgain();
        Check.finish("TapeBoundsTest");
    }

    private static ClothWedding filled(int feeds) {
        ClothWedding x = Check.church(ONE);
        for (int i = 0; i < feeds; i++) {
            x.feed(0x20202020, 0x20202020, 0x20202020, 0x20202020, 0x20202020);
        }
        return x;
    }

    /** "No church, nobody." */
    private static void noChurchNobody() {
        ClothWedding x = new ClothWedding();
        for (int p = -1; p < 2; p++) {
            Check.due("letter", x.letter(p, 0), -1);
            Check.due("warm", x.person(p, 0), -1);
            Check.due("wed", x.person(p, 3), -1);
            Check.due("place", x.person(p, 5), -1);
            Check.due("later", x.later(p, 0), -1);
            Check.due("when", x.when(p), -1);
            Check.due("steady", x.steady(p), -1);
            Check.due("teach", x.teach(p, 1), -1);
            Check.due("odds", x.odds(p), -1);
            Check.due("sizes", x.sizes(p), -1);
            Check.due("tells", x.tells(p, 0), -1);
        }
        Check.due("pair", x.pair(0, 0, 0), -1);
        Check.due("kept", x.kept(0, 0), -1);
        Check.due("match together", x.match(-1), 0);
        Check.due("match", x.match(0), -1);
        Check.due("rather", x.rather(-1, 0), 0);
        Check.due("rather", x.rather(0, 0), -1);
        Check.due("pairs", x.pairs(60), 0);
        Check.due("change", x.change(40, 3), 0);
        Check.due("change", x.change(40, 0), -1);
        Check.due("rounds", x.rounds(100), 0);
        Check.due("chance", x.chance(100), 0);
        Check.due("rounds are acts", x.has(9), 2);
        Check.due("SPRING", x.has(3), 66);
        Check.due("ROUND", x.has(4), 2);
    }

    /** "how many there are; NONE, refused (0), if there would be more than 1600" */
    private static void room() {
        ClothWedding x = new ClothWedding();
        for (int i = 1; i < 80; i++) {
            x.feed(0, 0, 0, 0, 0);
        }
        Check.due("up to 1600", x.feed(0, 0, 0, 0, 0), 1600);
        Check.due("not refused", x.status(0), 0);
        Check.due("beyond", x.feed(0, 0, 0, 0, 0), -1);
        Check.due("refused", x.status(0), 1);
        Check.due("1581 are left", x.end(1581), true);
        Check.due("1601", x.feed(0, 0, 0, 0, 0), -1);
        Check.due("refused", x.status(0), 2);
        Check.due("1580 are left", x.end(1580), true);
        Check.due("1600 again", x.feed(0, 0, 0, 0, 0), 1600);
        Check.due("not refused", x.status(0), 2);
    }

    private static void refusedFeedLeavesTheTape() {
        ClothWedding x = filled(79);
        x.feed(0x20202020, 0x20202020, 0x746f7461, 0x6c207761, 0x726d2a31);
        Check.due("no room", x.feed(0x41414141, 0x41414141, 0x41414141, 0x41414141, 0x41414141), -1);
        Check.due("the question to the last byte", x.ask(), 7);
        ClothWedding y = filled(80);
        y.end(1590);
        Check.due("no room for all twenty", y.feed(-1, -1, -1, -1, -1), -1);
        Check.due("not a byte came", y.end(1591), false);
        Check.due("1590 are there", y.end(1590), true);
    }

    /** "Twenty bytes come behind those on the tape" */
    private static void behindThoseOnTheTape() {
        ClothWedding x = Check.church(ONE);
        Check.due("upon nothing", x.feed(0x746f7461, 0x6c207741, 0, 0, 0), 20);
        Check.due("total w stays", x.end(7), true);
        Check.due("behind seven", x.feed(0x61726d2b, 0x31323320, 0x20202020, 0x20202020, 0x20202020), 27);
        Check.due("total warm+123", x.ask(), 130);
        x.feed(0x746f7461, 0x6c207741, 0, 0, 0);
        x.end(6);
        x.feed(0x31323320, 0x20202020, 0x20202020, 0x20202020, 0x20202020);
        Check.due("nothing of what was cut", x.ask(), 123);
    }

    /** "of each number the highest first", also of numbers below 0: rows tell bytes that are near their bounds. */
    private static void highestFirst() {
        ClothWedding x = Check.church(ONE);
        x.feed(0x1e000100, 0x00000000, 0x01ffffff, -1, -1);
        x.end(9);
        Check.due("30 0 1, 0 0 0, 0 0 1", x.see(), 3);
        x.feed(0x9e000100, 0, 0, 0, 0);
        x.end(3);
        Check.due("158 is no 30", x.see(), -1);
        x.feed(0x1e000180, 0, 0, 0, 0);
        x.end(3);
        Check.due("the last one is no matter", x.see(), 1);
        x.feed(0x1e00017f, Integer.MIN_VALUE, Integer.MAX_VALUE, -1, 1);
        x.end(3);
        Check.due("nor if it is 127", x.see(), 1);
        ClothWedding y = new ClothWedding();
        y.feed(0x00000086, 0, 0, 0, 0);
        y.end(4);
        Check.due("0 0 0 134 is an image", y.on(), true);
        y.feed(0x86000000, 0, 0, 0, 0);
        y.end(4);
        Check.due("134 0 0 0 is none", y.on(), false);
        y.feed(0xffffff86, 0, 0, 0, 0);
        y.end(4);
        Check.due("255 255 255 134 is none", y.on(), false);
    }

    /** "The tape has its first n bytes alone: true; false, refused (0), if it has not so many, or n is below 0." */
    private static void endTakesNoneToAll() {
        ClothWedding x = new ClothWedding();
        Check.due("0 of nothing", x.end(0), true);
        Check.due("1 of nothing", x.end(1), false);
        Check.due("-1 of nothing", x.end(-1), false);
        Check.due("refused", x.status(0), 2);
        x.feed(0, 0, 0, 0, 0);
        Check.due("21 of 20", x.end(21), false);
        Check.due("20 of 20", x.end(20), true);
        Check.due("19 of 20", x.end(19), true);
        Check.due("20 of 19", x.end(20), false);
        Check.due("1 of 19", x.end(1), true);
        Check.due("2 of 1", x.end(2), false);
        Check.due("0 of 1", x.end(0), true);
        Check.due("least", x.end(Integer.MIN_VALUE), false);
        Check.due("most", x.end(Integer.MAX_VALUE), false);
        Check.due("refused", x.status(0), 7);
    }

    private static void refusedEndLeavesTheTape() {
        ClothWedding x = Check.church(ONE);
        x.feed(0x746f7461, 0x6c207761, 0x726d2a31, 0x30202020, 0x20202020);
        x.end(-1);
        x.end(21);
        Check.due("all twenty stay", x.feed(0x20202020, 0x20202020, 0x20202020, 0x20202020, 0x20202020), 40);
        x.end(41);
        x.end(Integer.MIN_VALUE);
        Check.due("each byte stays", x.ask(), 70);
    }

    private static ClothWedding lived() {
        ClothWedding x = Bounds.church(2, 2, "slip 30;");
        x.rounds(5);
        x.image();
        Bounds.see(x, 3, 0, 1);
        return x;
    }

    private static void refusedCallsLeaveAllElse() {
        Bounds.stays("end(1) of nothing", TapeBoundsTest::lived, x -> x.end(1) ? 1 : 0, 0, 0);
        Bounds.stays("end(-1)", TapeBoundsTest::lived, x -> x.end(-1) ? 1 : 0, 0, 0);
        Bounds.stays("feed into a full tape", () -> {
            ClothWedding x = lived();
            for (int i = 0; i < 80; i++) {
                x.feed(0, 0, 0, 0, 0);
            }
            return x;
        }, x -> x.feed(1, 1, 1, 1, 1), -1, 0);
    }

    /** The tape goes with who takes it, refused or not, and is filled from its start again. */
    private static void theTapeBeginsAgain() {
        ClothWedding x = Check.church(ONE);
        for (int i = 0; i < 80; i++) {
            x.feed(0x20202020, 0x20202020, 0x20202020, 0x20202020, 0x20202020);
        }
        Check.due("a question of blanks", x.ask(), -1000000000000000L);
        Check.due("its place", x.fault(1), 1600);
        Check.due("begun again", x.feed(0x746f7461, 0x6c207761, 0x726d2020, 0x20202020, 0x20202020), 20);
        Check.due("nothing of before", x.ask(), 7);
        Check.due("the tape is empty behind", x.end(1), false);
        x.feed(0, 0, 0, 0, 0);
        x.end(3);
        Check.due("seen", x.see(), 1);
        Check.due("the tape is empty behind see()", x.end(1), false);
        x.feed(-1, 0, 0, 0, 0);
        x.see();
        Check.due("behind a refused see()", x.end(1), false);
        x.feed(-1, 0, 0, 0, 0);
        x.church();
        Check.due("behind a refused church()", x.end(1), false);
        x.feed(-1, 0, 0, 0, 0);
        x.on();
        Check.due("behind a refused on()", x.end(1), false);
        Check.tape(x, Check.image(x));
        Check.due("on", x.on(), true);
        Check.due("behind on()", x.end(1), false);
        Check.tape(x, ONE);
        Check.due("church", x.church(), 1);
        Check.due("behind church()", x.end(1), false);
    }
}
