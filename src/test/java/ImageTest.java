/** Promises 32, 33, 34: image, octet, on. */
public final class ImageTest {
    private static final String THREE = "left a warm 0 work 0 size 0;right b warm 0 work 0 size 0;left c warm 0 work 0 size 0;"
        + "likes a b 7;likes b c 3;knows c b 4;knows b a 2;kin c b;rounds 4;lets not all;";

    public static void main(String[] args) {
        bytes();
        backAgain();
        none();
        biggest();
        Check.finish("ImageTest");
    }

    private static void dueBytes(ClothWedding x, int... due) {
        Check.due("how many", x.image(), due.length + 1);
        int c = 163;
        for (int k = 0; k < due.length; k++) {
            Check.due("byte " + k, x.octet(k), due[k]);
            c = (3 * c + due[k]) % 251;
        }
        Check.due("the last byte", x.octet(due.length), c);
        Check.due("beyond", x.octet(due.length + 1), -1);
        Check.due("below", x.octet(-1), -1);
    }

    private static void bytes() {
        ClothWedding x = Check.church(THREE);
        dueBytes(x, 0, 0, 0, 0, 1, 2, 255, 0, 7, 0, 255, 0, 5, 4, 255, 0, 5, 2, 3, 0);
        x.swap(0, 0, 1);
        dueBytes(x, 0, 0, 0, 1, 0, 2, 255, 0, 7, 0, 255, 0, 5, 4, 255, 0, 5, 2, 3, 0);
        x.rounds(2);
        dueBytes(x, 0, 0, 2, 1, 0, 2, 2, 0, 7, 1, 255, 0, 5, 5, 0, 0, 5, 3, 3, 1);
        x.rounds(100);
        x.rounds(100);
        dueBytes(x, 0, 50, 2, 1, 0, 2, 2, 0, 7, 1, 255, 50, 5, 5, 0, 0, 5, 3, 3, 1);
        for (int i = 0; i < 10; i++) {
            x.rounds(100);
        }
        dueBytes(x, 1, 44, 2, 1, 0, 2, 2, 0, 7, 1, 255, 99, 5, 5, 0, 0, 5, 3, 3, 1);
        x.undo();
        Check.due("the latest image() stays", x.octet(1), 44);
        Check.due("an image is no act", x.has(9), 13);
    }

    private static void backAgain() {
        ClothWedding x = Check.church(THREE);
        x.swap(0, 0, 1);
        x.rounds(7);
        int[] image = Check.image(x);
        ClothWedding y = Check.church(THREE);
        y.rounds(2);
        Check.tape(y, 3, 0, 1);
        y.see();
        Check.tape(y, image);
        Check.due("on", y.on(), true);
        Check.due("nothing kept", y.has(7), 0);
        Check.due("nothing to undo", y.has(9), 0);
        Check.due("spring", y.has(3), 1);
        Check.due("round", y.has(4), 3);
        Check.due("wed", y.has(6), x.has(6));
        int[] again = Check.image(y);
        Check.due("as long", again.length, image.length);
        for (int i = 0; i < image.length; i++) {
            Check.due("byte " + i, again[i], image[i]);
        }
        Check.due("acts go on", y.rounds(5), x.rounds(5));
    }

    private static void refused(String why, int at, int value) {
        ClothWedding x = Check.church(THREE);
        x.swap(0, 0, 1);
        x.rounds(2);
        int[] image = Check.image(x);
        int[] spoilt = image.clone();
        spoilt[at] = value;
        Check.tape(x, Check.checked(spoilt));
        Check.due(why, x.on(), false);
        Check.due("refused: " + why, x.status(5), 1);
        int[] then = Check.image(x);
        for (int i = 0; i < image.length; i++) {
            Check.due(why + ": stays " + i, then[i], image[i]);
        }
        Check.due("acts stay", x.has(9), 2);
        Check.due("kept stays", x.has(7), 1);
    }

    /** The image: spring 0 0, round 2, orders 1 0 2, a: 2 0 7 1, c: 255 0 5 5, b: 0 0 5 3 3 1, last. */
    private static void none() {
        refused("spring 1024", 0, 4);
        refused("round 4", 2, 4);
        refused("round 255", 2, 255);
        refused("an order has one twice", 3, 0);
        refused("an order has one of the other side", 3, 2);
        refused("an order has nobody", 4, 3);
        refused("the other order", 5, 0);
        refused("wed to one of his side", 6, 1);
        refused("wed to nobody", 6, 3);
        refused("wed to himself", 6, 0);
        refused("wed one way", 6, 255);
        refused("wed one way", 10, 2);
        refused("wed the other way", 14, 255);
        refused("waited 100", 7, 100);
        refused("liking 10", 8, 10);
        refused("knowing 10", 9, 10);
        refused("liking 10 of the last", 18, 10);
        refused("knowing 10 of the last", 19, 10);
        ClothWedding x = Check.church(THREE);
        int[] image = Check.image(x);
        int[] wrong = image.clone();
        wrong[image.length - 1] ^= 1;
        Check.tape(x, wrong);
        Check.due("a wrong last byte", x.on(), false);
        Check.tape(x, java.util.Arrays.copyOf(image, image.length - 1));
        Check.due("one byte less", x.on(), false);
        Check.tape(x, java.util.Arrays.copyOf(image, image.length + 1));
        Check.due("one byte more", x.on(), false);
        Check.due("no tape", x.on(), false);
        Check.due("refused", x.status(5), 4);
        int[] kin = image.clone();
        kin[10] = 2;
        kin[14] = 1;
        Check.tape(x, Check.checked(kin));
        Check.due("kin are wed", x.on(), false);
        int[] edge = image.clone();
        edge[0] = 3;
        edge[1] = 231;
        edge[2] = 3;
        edge[7] = 99;
        edge[8] = 9;
        edge[9] = 9;
        Check.tape(x, Check.checked(edge));
        Check.due("the most of each", x.on(), true);
        Check.due("spring 999", x.has(3), 999);
        Check.due("waited 99", x.person(0, 4), 99);
        edge[1] = 232;
        Check.tape(x, Check.checked(edge));
        Check.due("spring 1000", x.on(), false);
        Check.due("spring stays", x.has(3), 999);
    }

    private static void biggest() {
        StringBuilder s = new StringBuilder();
        for (int i = 0; i < 12; i++) {
            s.append(i < 6 ? "left n" : "right n").append((char) ('a' + i)).append(" warm 0 work 0 size 0;");
        }
        ClothWedding x = Check.church(s.toString());
        Check.due("all bytes", x.image(), 184);
        Check.due("the last one's order", x.octet(14), 11);
        Check.tape(x, Check.image(x));
        Check.due("on", x.on(), true);
        ClothWedding y = Check.church("right a warm 0 work 0 size 0;");
        dueBytes(y, 0, 0, 0, 0, 255, 0);
    }
}
