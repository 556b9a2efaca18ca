/** Promises 1, 2, 3 and the refusals of 35 that belong to the tape. */
public final class TapeTest {
    public static void main(String[] args) {
        newObject();
        feedAndEnd();
        bytesInTheirOrder();
        tapeGoes();
        Check.finish("TapeTest");
    }

    private static void newObject() {
        ClothWedding x = new ClothWedding();
        int[] due = {0, 0, 0, 0, 0, 3, 0, 0, 0, 0};
        for (int what = 0; what < due.length; what++) {
            Check.due("new has(" + what + ")", x.has(what), due[what]);
        }
        for (int what = 0; what < 6; what++) {
            Check.due("new status(" + what + ")", x.status(what), 0);
        }
        Check.due("new fault(0)", x.fault(0), 0);
        Check.due("new fault(1)", x.fault(1), -1);
        Check.due("new fault(2)", x.fault(2), -1);
        Check.due("new octet(0)", x.octet(0), -1);
        Check.due("new church of nothing", x.church(), 0);
    }

    private static void feedAndEnd() {
        ClothWedding x = new ClothWedding();
        for (int i = 1; i <= 80; i++) {
            Check.due("feed " + i, x.feed(1, 2, 3, 4, 5), 20 * i);
        }
        Check.due("feed beyond 1600", x.feed(1, 2, 3, 4, 5), -1);
        Check.due("status(0)", x.status(0), 1);
        Check.due("end below 0", x.end(-1), false);
        Check.due("end beyond", x.end(1601), false);
        Check.due("end at all", x.end(1600), true);
        Check.due("end at 1581", x.end(1581), true);
        Check.due("feed to 1601", x.feed(1, 2, 3, 4, 5), -1);
        Check.due("end at 1580", x.end(1580), true);
        Check.due("end at 1581 again", x.end(1581), false);
        Check.due("feed to 1600", x.feed(1, 2, 3, 4, 5), 1600);
        Check.due("end at 0", x.end(0), true);
        Check.due("end at 1", x.end(1), false);
        Check.due("feed again", x.feed(1, 2, 3, 4, 5), 20);
        Check.due("status(0)", x.status(0), 6);
        Check.due("smallest", x.end(Integer.MIN_VALUE), false);
        Check.due("greatest", x.end(Integer.MAX_VALUE), false);
        Check.due("status(0)", x.status(0), 8);
        Check.due("status(1)", x.status(1), 0);
    }

    /** The bytes stand as they came: a question cut anywhere is the question's beginning. */
    private static void bytesInTheirOrder() {
        ClothWedding x = new ClothWedding();
        x.feed(0x746f7461, 0x6c203132, 0x2b333420, 0x20202020, 0x20202023);
        x.end(19);
        Check.due("total 12+34", x.ask(), 0);
        x.feed(0x746f7461, 0x6c203132, 0x2b333420, 0x20202020, 0x20202023);
        Check.due("total 12+34 and a #", x.ask(), ClothWedding.NOTHING);
        Check.due("its place", x.fault(1), 19);
        x.feed(-1, -1, -1, -1, -1);
        x.end(1);
        x.church();
        Check.due("byte 255 is a fault", x.fault(0), 1);
        x.feed(0x80000000, 0, 0, 0, 0);
        x.end(1);
        x.church();
        Check.due("byte 128 is a fault", x.fault(0), 1);
    }

    private static void tapeGoes() {
        ClothWedding x = new ClothWedding();
        x.feed(0, 0, 0, 0, 0);
        x.church();
        Check.due("behind church()", x.feed(0, 0, 0, 0, 0), 20);
        x.see();
        Check.due("behind see()", x.feed(0, 0, 0, 0, 0), 20);
        x.ask();
        Check.due("behind ask()", x.feed(0, 0, 0, 0, 0), 20);
        x.on();
        Check.due("behind on()", x.feed(0, 0, 0, 0, 0), 20);
        x.image();
        x.has(0);
        x.rounds(1);
        Check.due("behind others", x.feed(0, 0, 0, 0, 0), 40);
    }
}
