/** Promises 20, 21, 22: see, sizes, tells. */
public final class SizesTest {
    private static final String TWO = "left a warm 0 work 0 size 9;right b warm 0 work 0 size 8;"
        + "feels size;lets feel<5;learns known;";

    public static void main(String[] args) {
        rows();
        sizes();
        telling();
        Check.finish("SizesTest");
    }

    private static int see(ClothWedding x, int... bytes) {
        Check.tape(x, bytes);
        return x.see();
    }

    private static void rows() {
        ClothWedding x = Check.church(TWO);
        Check.due("one row", see(x, 0, 0, 0), 1);
        Check.due("rows seen", x.has(8), 1);
        int[] sixteen = new int[48];
        Check.due("sixteen rows", see(x, sixteen), 16);
        Check.due("rows seen", x.has(8), 16);
        Check.due("seventeen rows", see(x, new int[51]), -1);
        Check.due("no row", see(x), -1);
        Check.due("one byte", see(x, 0), -1);
        Check.due("four bytes", see(x, 0, 0, 0, 0), -1);
        Check.due("31 rounds", see(x, 31, 0, 0), -1);
        Check.due("30 rounds", see(x, 30, 1, 1), 1);
        Check.due("nobody", see(x, 1, 2, 0), -1);
        Check.due("neither 0 nor 1", see(x, 1, 1, 2), -1);
        Check.due("a wrong second row", see(x, 1, 1, 1, 1, 2, 1), -1);
        Check.due("what was seen stays", x.has(8), 1);
        Check.due("refused", x.status(1), 8);
        Check.due("no act", x.has(9), 0);
        Check.due("nobody there", see(new ClothWedding(), 0, 0, 0), -1);
    }

    private static void sizes() {
        ClothWedding x = Check.church(TWO);
        Check.due("all", x.sizes(0), 1023);
        see(x, 1, 0, 1);
        Check.due("5 to 9", x.sizes(0), 992);
        Check.due("5 to 9 of the other", x.sizes(1), 992);
        Check.due("his own stays", x.person(0, 2), 9);
        see(x, 30, 1, 0);
        Check.due("0 to 4", x.sizes(0), 31);
        see(x, 30, 1, 0, 1, 0, 1);
        Check.due("none", x.sizes(0), 0);
        see(x, 0, 1, 0, 1, 0, 1);
        Check.due("not yet, but then", x.sizes(0), 992);
        see(x, 0, 1, 1);
        Check.due("wed now: none", x.sizes(0), 0);
        Check.due("nobody", x.sizes(2), -1);
        Check.due("NONE", x.sizes(-1), -1);
        x.rounds(1);
        Check.due("wed now", x.sizes(0), 1023);
        ClothWedding y = Check.church("left a warm 0 work 0 size 0;right b warm 0 work 0 size 5;"
            + "feels size+spring;lets feel<7;rounds 1;");
        see(y, 3, 0, 1);
        Check.due("by the third spring", y.sizes(0), 992);
        see(y, 3, 0, 1, 2, 0, 0);
        Check.due("not by the second", y.sizes(0), 992);
        see(y, 4, 0, 1, 3, 1, 0);
        Check.due("in the fourth", y.sizes(0), 16);
        y.rounds(1);
        Check.due("from now on", y.sizes(0), 8);
    }

    private static void telling() {
        ClothWedding x = Check.church(TWO);
        int[] due = {1, 0, 5};
        for (int what = 0; what < 3; what++) {
            Check.due("tells " + what, x.tells(0, what), due[what]);
        }
        Check.due("what 3", x.tells(0, 3), -1);
        Check.due("what -1", x.tells(0, -1), -1);
        Check.due("nobody", x.tells(2, 0), -1);
        see(x, 1, 0, 1);
        int[] then = {1, 0, 5};
        for (int what = 0; what < 3; what++) {
            Check.due("nothing more " + what, x.tells(0, what), then[what]);
        }
        see(x, 0, 0, 1);
        Check.due("no size is left", x.tells(0, 0), -1);
        ClothWedding y = Check.church("right b warm 0 work 0 size 9;left c warm 0 work 0 size 0;left a warm 0 work 0 size 0;"
            + "feels size+spring;lets feel<9;rounds 2;learns 0;kin c b;");
        // a holds b in ROUND 1 of each spring, and is wed in spring 9 - size.
        int[] late = {10, 1, 5};
        for (int what = 0; what < 3; what++) {
            Check.due("tells late " + what, y.tells(1, what), late[what]);
        }
        see(y, 10, 1, 0);
        int[] five = {14, 1, 3};
        for (int what = 0; what < 3; what++) {
            Check.due("tells of five " + what, y.tells(1, what), five[what]);
        }
        Check.due("of one whose hand tells nothing", y.tells(0, 2), 10);
    }
}
