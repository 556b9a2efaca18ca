/** What all tests share: a tape written as text, answers compared and counted. */
final class Check {
    private static int wrong = 0;
    private static int looked = 0;

    private Check() {
    }

    static void due(String what, long got, long want) {
        looked++;
        if (got != want) {
            wrong++;
            System.out.println(what + " answered " + got + ", due is " + want);
        }
    }

    static void due(String what, boolean got, boolean want) {
        due(what, got ? 1 : 0, want ? 1 : 0);
    }

    static void finish(String name) {
        System.out.println(name + ": " + looked + " answers looked at, " + wrong + " wrong");
        if (wrong != 0 || looked == 0) {
            System.exit(1);
        }
    }

    static void tape(ClothWedding x, int... bytes) {
        int[] padded = new int[(bytes.length + 19) / 20 * 20];
        System.arraycopy(bytes, 0, padded, 0, bytes.length);
        for (int i = 0; i < padded.length; i += 20) {
            x.feed(four(padded, i), four(padded, i + 4), four(padded, i + 8), four(padded, i + 12), four(padded, i + 16));
        }
        x.end(bytes.length);
    }

    static int four(int[] bytes, int i) {
        return bytes[i] << 24 | bytes[i + 1] << 16 | bytes[i + 2] << 8 | bytes[i + 3];
    }

    static void tape(ClothWedding x, String text) {
        int[] bytes = new int[text.length()];
        for (int i = 0; i < bytes.length; i++) {
            bytes[i] = text.charAt(i) & 255;
        }
        tape(x, bytes);
    }

    static ClothWedding church(String text) {
        ClothWedding x = new ClothWedding();
        tape(x, text);
        if (x.church() == ClothWedding.NONE) {
            due("church of " + text + " at " + x.fault(1), x.fault(0), 0);
        }
        return x;
    }

    static long ask(ClothWedding x, String text) {
        tape(x, text);
        return x.ask();
    }

    static void churchFault(String text, int kind, int place) {
        ClothWedding x = new ClothWedding();
        tape(x, text);
        due("church of a fault: " + text, x.church(), -1);
        due("fault(0) of " + text, x.fault(0), kind);
        due("fault(1) of " + text, x.fault(1), place);
        due("refused: " + text, x.status(1), 1);
    }

    static void churchSound(String text, int statements) {
        ClothWedding x = new ClothWedding();
        tape(x, text);
        due("church of " + text, x.church(), statements);
        due("fault(0) of " + text, x.fault(0), 0);
        due("fault(1) of " + text, x.fault(1), -1);
        due("not refused: " + text, x.status(1), 0);
    }

    static void askFault(ClothWedding x, String text, int kind, int place) {
        due("ask of a fault: " + text, ask(x, text), ClothWedding.NOTHING);
        due("fault(0) of " + text, x.fault(0), kind);
        due("fault(1) of " + text, x.fault(1), place);
    }

    static int[] image(ClothWedding x) {
        int[] bytes = new int[x.image()];
        for (int i = 0; i < bytes.length; i++) {
            bytes[i] = x.octet(i);
        }
        return bytes;
    }

    /** An image's bytes with its last byte made anew. */
    static int[] checked(int[] bytes) {
        int[] out = bytes.clone();
        int c = 163;
        for (int i = 0; i + 1 < out.length; i++) {
            c = (3 * c + out[i]) % 251;
        }
        out[out.length - 1] = c;
        return out;
    }
}
