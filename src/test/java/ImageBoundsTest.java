import java.util.Arrays;

/** Promises 32 to 34 at their bounds: AN IMAGE, its bytes, and what is none. */
public final class ImageBoundsTest {
    /** a c | b with kin c b; the image: 0 0 2, 1 0 2, a: 2 0 7 1, c: 255 0 5 5, b: 0 0 5 3 3 1, last. */
    private static final String THREE = "left a warm 0 work 0 size 0;right b warm 0 work 0 size 0;left c warm 0 work 0 size 0;"
        + "likes a b 7;likes b c 3;knows c b 4;knows b a 2;kin c b;rounds 4;lets not all;";

    public static void main(String[] args) {
        howMany();
        octets();
        latestImage();
        springInTwoBytes();
        lastByte();
        onTakesTheMost();
        onRefusesOneMore();
        onRefusesOtherLengths();
        onRefusesLastBytes();
        onRefusesOrders();
        onRefusesWeddings();
        onRefusesKin();
        onOfAnotherChurch();
        nothingIsKept();
        refusedOnLeavesAll();
        backAgain();
        Check.finish("ImageBoundsTest");
    }

    private static ClothWedding three() {
        ClothWedding x = Check.church(THREE);
        x.swap(0, 0, 1);
        x.rounds(2);
        return x;
    }

    private static int[] image() {
        return Check.image(three());
    }

    private static void on(String what, boolean due, int... atAndValue) {
        ClothWedding x = Check.church(THREE);
        int[] bytes = image();
        for (int i = 0; i + 1 < atAndValue.length; i += 2) {
            bytes[atAndValue[i]] = atAndValue[i + 1];
        }
        int[] checked = Check.checked(bytes);
        Check.due(what, Bounds.on(x, checked), due);
        Check.due(what + ": refused", x.status(5), due ? 0 : 1);
        if (due) {
            Bounds.due(what + ": as it tells", Check.image(x), checked);
        } else {
            Bounds.due(what + ": all stays", Check.image(x), Check.image(Check.church(THREE)));
        }
    }

    /** "AN IMAGE is written: how many bytes." */
    private static void howMany() {
        Check.due("nobody", new ClothWedding().image(), 4);
        for (int lefts = 0; lefts <= 6; lefts++) {
            for (int rights = 0; rights <= 6; rights++) {
                ClothWedding x = Bounds.church(lefts, rights, "");
                int due = 4 + 3 * (lefts + rights) + 4 * lefts * rights;
                Check.due(lefts + " and " + rights, x.image(), due);
                Check.due("the last of " + lefts + " and " + rights, x.octet(due - 1) >= 0, true);
                Check.due("none behind " + lefts + " and " + rights, x.octet(due), -1);
            }
        }
    }

    /** "Byte k of the latest image(); NONE when there is none such." */
    private static void octets() {
        ClothWedding x = new ClothWedding();
        for (int k : new int[] {-1, 0, 1, 3, 4, 183, 184, Integer.MIN_VALUE, Integer.MAX_VALUE}) {
            Check.due("ahead of any " + k, x.octet(k), -1);
        }
        x.image();
        Bounds.due("without PEOPLE", new int[] {x.octet(-1), x.octet(0), x.octet(1), x.octet(2), x.octet(3), x.octet(4)},
            -1, 0, 0, 0, 134, -1);
        ClothWedding y = Bounds.church(6, 6, "");
        Check.due("the greatest", y.image(), 184);
        for (int k : new int[] {-1, 184, 185, 1000, Integer.MIN_VALUE, Integer.MAX_VALUE}) {
            Check.due("none " + k, y.octet(k), -1);
        }
        Bounds.due("of three", image(), 0, 0, 2, 1, 0, 2, 2, 0, 7, 1, 255, 0, 5, 5, 0, 0, 5, 3, 3, 1, check(image()));
    }

    private static int check(int[] bytes) {
        int c = 163;
        for (int i = 0; i + 1 < bytes.length; i++) {
            c = (3 * c + bytes[i]) % 251;
        }
        return c;
    }

    private static void latestImage() {
        ClothWedding x = Bounds.church(1, 1, "rounds 12;lets all;");
        x.image();
        x.rounds(1);
        Check.due("as it was written", x.octet(2), 0);
        x.image();
        Check.due("the latest", x.octet(2), 1);
        x.undo();
        Check.due("behind undo()", x.octet(2), 1);
        Check.tape(x, Bounds.people(6, 6));
        x.church();
        Check.due("behind church()", x.octet(2), 1);
        Check.due("as long as it was", x.octet(14), -1);
        Check.due("written anew", x.image(), 184);
        Check.due("as long as it is", x.octet(183) >= 0, true);
        Check.tape(x, "");
        x.church();
        x.image();
        Check.due("a shorter one", x.octet(4), -1);
    }

    /** "SPRING (two bytes, the higher first)" */
    private static void springInTwoBytes() {
        ClothWedding x = Bounds.church(1, 1, "rounds 1;lets all;");
        for (int spring : new int[] {0, 1, 255, 256, 257, 511, 512, 998, 999}) {
            Bounds.at(x, spring, 0);
            Check.due("SPRING " + spring, x.has(3), spring);
            x.image();
            Check.due("higher of " + spring, x.octet(0), spring / 256);
            Check.due("lower of " + spring, x.octet(1), spring % 256);
        }
        Bounds.at(x, 255, 0);
        x.rounds(1);
        x.image();
        Check.due("256 by a ROUND", x.octet(0) * 1000 + x.octet(1), 1000);
    }

    /** "last a byte: all ahead from 163 on, c = (3 c + it) mod 251" */
    private static void lastByte() {
        for (int acts = 0; acts < 9; acts++) {
            ClothWedding x = Bounds.church(2, 3, "lets all;rounds 7;learns known+2;");
            x.like(0, 2, acts);
            x.rounds(1 + 11 * acts);
            int[] bytes = Check.image(x);
            Check.due("behind " + acts, bytes[bytes.length - 1], check(bytes));
        }
        boolean[] met = new boolean[256];
        ClothWedding x = new ClothWedding();
        for (int spring = 0; spring < 90; spring++) {
            x.rounds(3);
            x.image();
            int due = 163;
            due = (3 * due) % 251;
            due = (3 * due + spring + 1) % 251;
            due = (3 * due) % 251;
            Check.due("by SPRING " + (spring + 1), x.octet(3), due);
            met[due] = true;
        }
        Check.due("the least", met[0] || met[1] || met[2], true);
        Check.due("the most", met[250] || met[249] || met[248], true);
    }

    /** "(SPRING 999, ROUND below what is told; .. waited 99, likings, knowing 9 at most)" */
    private static void onTakesTheMost() {
        on("as it is", true);
        on("SPRING 0", true, 0, 0, 1, 0);
        on("SPRING 256", true, 0, 1, 1, 0);
        on("SPRING 999", true, 0, 3, 1, 231);
        on("SPRING 255", true, 0, 0, 1, 255);
        on("ROUND 0", true, 2, 0);
        on("ROUND 3", true, 2, 3);
        for (int at : new int[] {7, 11, 15}) {
            on("waited 0 at " + at, true, at, 0);
            on("waited 99 at " + at, true, at, 99);
        }
        for (int at : new int[] {8, 9, 12, 13, 16, 17, 18, 19}) {
            on("0 at " + at, true, at, 0);
            on("9 at " + at, true, at, 9);
        }
        on("nobody WED", true, 6, 255, 14, 255);
    }

    private static void onRefusesOneMore() {
        on("SPRING 1000", false, 0, 3, 1, 232);
        on("SPRING 1023", false, 0, 3, 1, 255);
        on("SPRING 1024", false, 0, 4, 1, 0);
        on("SPRING 65535", false, 0, 255, 1, 255);
        on("ROUND 4", false, 2, 4);
        on("ROUND 255", false, 2, 255);
        for (int at : new int[] {7, 11, 15}) {
            on("waited 100 at " + at, false, at, 100);
            on("waited 255 at " + at, false, at, 255);
        }
        for (int at : new int[] {8, 9, 12, 13, 16, 17, 18, 19}) {
            on("10 at " + at, false, at, 10);
            on("255 at " + at, false, at, 255);
        }
        ClothWedding one = Bounds.church(1, 1, "rounds 1;");
        int[] bytes = Check.image(one);
        bytes[2] = 1;
        Check.due("ROUND 1 of 1", Bounds.on(one, Check.checked(bytes)), false);
        ClothWedding twelve = Bounds.church(1, 1, "rounds 12;");
        bytes = Check.image(twelve);
        bytes[2] = 11;
        Check.due("ROUND 11 of 12", Bounds.on(twelve, Check.checked(bytes)), true);
        bytes[2] = 12;
        Check.due("ROUND 12 of 12", Bounds.on(twelve, Check.checked(bytes)), false);
    }

    private static void onRefusesOtherLengths() {
        int[] bytes = image();
        for (int length = 0; length <= bytes.length + 20; length++) {
            ClothWedding x = Check.church(THREE);
            int[] cut = Arrays.copyOf(bytes, length);
            if (length > 0 && length != bytes.length) {
                cut = Check.checked(cut);
            }
            Check.due(length + " bytes", Bounds.on(x, cut), length == bytes.length);
            Check.due(length + " bytes: refused", x.status(5), length == bytes.length ? 0 : 1);
        }
        ClothWedding x = Bounds.church(6, 6, "");
        int[] all = Check.image(x);
        Check.due("the greatest", Bounds.on(x, all), true);
        Check.due("one more", Bounds.on(x, Check.checked(Arrays.copyOf(all, 185))), false);
        Check.due("a full tape", Bounds.on(x, Check.checked(Arrays.copyOf(all, 1600))), false);
        ClothWedding y = new ClothWedding();
        Check.due("no tape", y.on(), false);
        Check.due("three bytes", Bounds.on(y, 0, 0, 45), false);
        Check.due("the least", Bounds.on(y, 0, 0, 0, 134), true);
        Check.due("five bytes", Bounds.on(y, 0, 0, 0, 0, 151), false);
    }

    private static void onRefusesLastBytes() {
        int[] bytes = image();
        int right = bytes[bytes.length - 1];
        ClothWedding x = Check.church(THREE);
        for (int last = 0; last < 256; last++) {
            bytes[bytes.length - 1] = last;
            if (last != right) {
                Check.tape(x, bytes);
                Check.due("last byte " + last, x.on(), false);
            }
            if (last % 60 == 59) {
                x = Check.church(THREE);
            }
        }
        ClothWedding y = new ClothWedding();
        Check.due("134", Bounds.on(y, 0, 0, 0, 134), true);
        Check.due("134 of another", Bounds.on(y, 0, 1, 0, 134), false);
        Check.due("137", Bounds.on(y, 0, 1, 0, 137), true);
    }

    /** "ORDERS have each of their side once" */
    private static void onRefusesOrders() {
        for (int a = 0; a < 4; a++) {
            for (int b = 0; b < 4; b++) {
                boolean once = a < 2 && b < 2 && a != b;
                on("order " + a + " " + b, once, 3, a, 4, b);
            }
        }
        on("order 255", false, 3, 255);
        on("order 0 of the right", false, 5, 0);
        on("order 1 of the right", false, 5, 1);
        on("order 3 of the right", false, 5, 3);
        on("the sides exchanged", false, 3, 2, 4, 1, 5, 0);
        ClothWedding x = Bounds.church(6, 6, "");
        int[] bytes = Check.image(x);
        for (int k = 0; k < 6; k++) {
            bytes[3 + k] = 5 - k;
            bytes[9 + k] = 11 - k;
        }
        Check.due("from behind", Bounds.on(x, Check.checked(bytes)), true);
        for (int p = 0; p < 12; p++) {
            Check.due("place of " + p, x.person(p, 5), 5 - p % 6);
        }
        bytes[14] = 12;
        Check.due("12 of twelve", Bounds.on(x, Check.checked(bytes)), false);
        bytes[14] = 7;
        Check.due("7 twice", Bounds.on(x, Check.checked(bytes)), false);
    }

    /** "WED to one of the other side, who is WED to him" */
    private static void onRefusesWeddings() {
        for (int to : new int[] {0, 1, 3, 4, 12, 99, 128, 254}) {
            on("a WED to " + to, false, 6, to);
        }
        for (int to : new int[] {0, 1, 2, 3, 254}) {
            on("c WED to " + to, false, 10, to);
        }
        for (int to : new int[] {1, 2, 3, 254, 255}) {
            on("b WED to " + to, false, 14, to);
        }
        on("a to nobody, b to him", false, 6, 255);
        ClothWedding x = Bounds.church(2, 2, "");
        int[] bytes = Check.image(x);
        int[] at = {7, 13, 19, 25};
        int[][] not = {{2, 3, 1, 0}, {3, 2, 0, 1}, {2, 255, 0, 0}, {2, 2, 0, 255}, {1, 0, 255, 255}, {255, 255, 3, 2}, {2, 255, 1, 255}};
        for (int[] wed : not) {
            for (int p = 0; p < 4; p++) {
                bytes[at[p]] = wed[p];
            }
            Check.due("WED " + Arrays.toString(wed), Bounds.on(x, Check.checked(bytes)), false);
        }
        int[][] so = {{2, 3, 0, 1}, {3, 2, 1, 0}, {255, 3, 255, 1}, {255, 255, 255, 255}, {3, 255, 255, 0}};
        for (int[] wed : so) {
            for (int p = 0; p < 4; p++) {
                bytes[at[p]] = wed[p];
            }
            Check.due("WED " + Arrays.toString(wed), Bounds.on(x, Check.checked(bytes)), true);
            for (int p = 0; p < 4; p++) {
                Check.due("WED to", x.person(p, 3), wed[p] == 255 ? -1 : wed[p]);
            }
        }
        ClothWedding six = Bounds.church(6, 6, "lets not all;");
        six.rounds(1);
        int[] all = Check.image(six);
        six.part(0);
        Check.due("six pairs", Bounds.on(six, all), true);
        Check.due("six pairs", six.has(6), 6);
    }

    /** "no KIN" */
    private static void onRefusesKin() {
        on("c and b are KIN", false, 6, 255, 10, 2, 14, 1);
        ClothWedding x = Check.church(THREE.replace("kin c b;", ""));
        int[] bytes = image();
        bytes[6] = 255;
        bytes[10] = 2;
        bytes[14] = 1;
        Check.due("without KIN", Bounds.on(x, Check.checked(bytes)), true);
        Check.due("c and b", x.person(1, 3), 2);
    }

    private static void onOfAnotherChurch() {
        int[] bytes = image();
        Check.due("more ROUNDS", Bounds.on(Check.church(THREE + "rounds 12;"), bytes), true);
        Check.due("as many ROUNDS", Bounds.on(Check.church(THREE + "rounds 3;"), bytes), true);
        Check.due("fewer ROUNDS", Bounds.on(Check.church(THREE + "rounds 2;"), bytes), false);
        Check.due("one more of the PEOPLE", Bounds.on(Check.church(THREE + "left d warm 0 work 0 size 0;"), bytes), false);
        Check.due("nobody", Bounds.on(new ClothWedding(), bytes), false);
    }

    /** "true, all is as it tells, nothing is KEPT or can be undone" */
    private static void nothingIsKept() {
        ClothWedding x = three();
        Bounds.see(x, 1, 0, 0);
        Check.due("kept", x.has(7), 1);
        Check.due("on", Bounds.on(x, image()), true);
        Check.due("nothing is KEPT", x.has(7), 0);
        Check.due("nothing is KEPT", x.kept(0, 0), -1);
        Check.due("nothing can be undone", x.has(9), 0);
        Check.due("SEEN stays", x.has(8), 1);
        Check.due("still WED", x.has(6), 1);
        Check.due("undo", x.undo(), false);
        x.part(0);
        x.rounds(4);
        Check.due("kept anew", x.has(7), 1);
        Check.due("from the first on", x.kept(0, 1), 3);
    }

    private static ClothWedding lived() {
        ClothWedding x = Bounds.church(2, 2, "slip 30;kin la ra;");
        x.rounds(5);
        x.like(0, 2, 8);
        x.image();
        Bounds.see(x, 3, 0, 1);
        return x;
    }

    private static void refusedOnLeavesAll() {
        Bounds.stays("on without a tape", ImageBoundsTest::lived, x -> x.on() ? 1 : 0, 0, 5);
        int[] bytes = Check.image(lived());
        for (int at : new int[] {0, 2, 3, 5, 7, 8, 9, 24, 29, 30, 31}) {
            int[] spoilt = bytes.clone();
            spoilt[at] = 200;
            int[] checked = at == 31 ? spoilt : Check.checked(spoilt);
            Bounds.stays("on with 200 at " + at, ImageBoundsTest::lived, x -> Bounds.on(x, checked) ? 1 : 0, 0, 5);
        }
        Bounds.stays("image", ImageBoundsTest::lived, x -> x.image(), 32, -1);
    }

    private static void backAgain() {
        ClothWedding x = lived();
        int[] bytes = Check.image(x);
        int next = x.chance(30);
        Check.due("back", Bounds.on(x, bytes), true);
        Bounds.due("each byte", Check.image(x), bytes);
        ClothWedding y = Bounds.church(2, 2, "slip 30;kin la ra;");
        Check.due("into another", Bounds.on(y, bytes), true);
        Check.due("by the same seed", y.chance(30), next);
    }
}
