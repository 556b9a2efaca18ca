import java.util.ArrayList;
import java.util.List;
import java.util.Random;

/** The class and the plain telling of the document, call by call, on churches made by chance (with fixed seeds). */
public final class RandomTest {
    private final Random r;
    private final ClothWedding x = new ClothWedding();
    private final PlainWedding y = new PlainWedding();
    private final List<String> names = new ArrayList<>();
    private final List<String> lefts = new ArrayList<>();
    private final List<String> rights = new ArrayList<>();
    private int run;

    private RandomTest(int run) {
        this.run = run;
        r = new Random(run);
    }

    public static void main(String[] args) {
        int from = args.length > 1 ? Integer.parseInt(args[0]) : 1;
        int to = args.length > 1 ? Integer.parseInt(args[1]) : 400;
        for (int run = from; run <= to; run++) {
            new RandomTest(run).go();
        }
        Check.finish("RandomTest");
    }

    private void go() {
        for (int i = 0; i < 3; i++) {
            anyCall();
        }
        int churches = 1 + r.nextInt(3);
        for (int c = 0; c < churches; c++) {
            tape(church());
            due("church", x.church(), y.church());
            faults();
            tape(church());
            String told = r.nextInt(3) > 0 ? null : "spoilt";
            if (told != null) {
                spoilTape();
            }
            due("church", x.church(), y.church());
            faults();
            if (r.nextInt(4) == 0) {
                nearTheEnd();
            }
            for (int i = 0; i < 60; i++) {
                anyCall();
            }
            if (r.nextInt(8) == 0) {
                weddingsAndPartings();
            }
        }
        for (int what = -1; what < 7; what++) {
            due("status(" + what + ")", x.status(what), y.status(what));
        }
    }

    /** Many are wed again and again, so that more is kept than is told, and acts more than can be undone. */
    private void weddingsAndPartings() {
        for (int i = 0; i < 40; i++) {
            int n = 1 + r.nextInt(5);
            due("rounds " + n, x.rounds(n), y.rounds(n));
            for (int p = 0; p < y.people.size(); p++) {
                if (r.nextBoolean()) {
                    due("part " + p, x.part(p), y.part(p));
                }
            }
            allKept();
        }
        for (int i = 0; i < 21; i++) {
            due("undo", x.undo(), y.undo());
            allKept();
        }
    }

    private void allKept() {
        due("has(7)", x.has(7), y.has(7));
        for (int k = -1; k <= 40; k++) {
            for (int what = 0; what < 4; what++) {
                due("kept " + k + " " + what, x.kept(k, what), y.kept(k, what));
            }
        }
    }

    private void faults() {
        for (int what = -1; what < 3; what++) {
            due("fault(" + what + ")", x.fault(what), y.fault(what));
        }
        for (int what = -1; what < 11; what++) {
            due("has(" + what + ")", x.has(what), y.has(what));
        }
    }

    private void due(String what, long got, long want) {
        Check.due("run " + run + ": " + what, got, want);
    }

    private void due(String what, boolean got, boolean want) {
        Check.due("run " + run + ": " + what, got, want);
    }

    private void tape(String text) {
        int[] bytes = new int[text.length()];
        for (int i = 0; i < bytes.length; i++) {
            bytes[i] = text.charAt(i);
        }
        tape(bytes);
    }

    private void tape(int[] bytes) {
        x.end(0);
        y.end(0);
        int[] padded = new int[(bytes.length + 19) / 20 * 20];
        System.arraycopy(bytes, 0, padded, 0, bytes.length);
        for (int i = 0; i < padded.length; i += 20) {
            int[] f = new int[5];
            for (int k = 0; k < 5; k++) {
                f[k] = Check.four(padded, i + 4 * k);
            }
            due("feed", x.feed(f[0], f[1], f[2], f[3], f[4]), y.feed(f[0], f[1], f[2], f[3], f[4]));
        }
        due("end", x.end(bytes.length), y.end(bytes.length));
    }

    /** The tape again, with a byte or a word otherwise. */
    private void spoilTape() {
        int[] bytes = y.tape.stream().mapToInt(b -> b).toArray();
        if (bytes.length == 0) {
            return;
        }
        String text = y.takeTape();
        int at = r.nextInt(text.length());
        String odd = pick(";", " ", "", "0", "9", "12345", "7", "a", "kin ", "left ", "not ", "(", ")", "[", "]", "+", "<",
            ",", "A", "\t", "\n", "\u00e9", "\0", "abcdefg", "all", "min(", "and ", "known", "10", "feels 1;", "=");
        int gone = r.nextInt(3);
        tape(text.substring(0, at) + odd + text.substring(Math.min(text.length(), at + gone)));
    }

    private String pick(String... of) {
        return of[r.nextInt(of.length)];
    }

    private String blank() {
        return pick("", "", "", " ", "\n", "  ");
    }

    private String church() {
        names.clear();
        lefts.clear();
        rights.clear();
        StringBuilder s = new StringBuilder();
        int most = r.nextInt(5) == 0 ? 7 : 6;
        int left = r.nextInt(most + 1);
        int right = r.nextInt(most + 1);
        while (left + right > 0) {
            boolean onLeft = r.nextInt(left + right) < left;
            String name = name();
            for (int i = 0; i < 20 && names.contains(name) && r.nextInt(40) > 0; i++) {
                name = name();
            }
            s.append(onLeft ? "left " : "right ").append(name).append(" warm ").append(r.nextInt(10)).append(" work ")
                .append(r.nextInt(10)).append(" size ").append(r.nextInt(10)).append(blank()).append(';').append(blank());
            names.add(name);
            (onLeft ? lefts : rights).add(name);
            left -= onLeft ? 1 : 0;
            right -= onLeft ? 0 : 1;
        }
        int more = r.nextInt(r.nextInt(6) == 0 ? 60 : 25);
        boolean plain = r.nextInt(3) > 0;
        toldFeels = plain;
        if (plain) {
            s.append(sensible());
        }
        for (int i = 0; i < more; i++) {
            s.append(statement()).append(blank()).append(';').append(blank());
            if (r.nextInt(60) == 0) {
                s.append(pick("x", ";", "left", "kin", "feels 1;", "slip 101;", "rounds 0;", "rounds 13;", "learns feel feel;"));
            }
        }
        if (s.length() > 1600) {
            s.setLength(s.lastIndexOf(";", 1599) + 1);
        }
        return s.toString();
    }

    private boolean toldFeels;

    /** Formulas by which some are wed soon, some late, by how small a hand is, too. */
    private String sensible() {
        String feels = pick("warm+liking+known*2-spring", "size+liking+known", "size*known/2+warm", "max(size*2,liking)+known",
            "work+known*3-size", "liking+known", "size+known");
        String lets = pick("feel<" + r.nextInt(20) + " and waited<" + r.nextInt(9), "feel<" + (5 + r.nextInt(12)),
            "not feel>" + (3 + r.nextInt(15)) + " or round=1", "[feel<9 or liking<3] and known<" + (1 + r.nextInt(8)),
            "feel+waited*2<" + r.nextInt(30));
        String learns = pick("known+1", "known+feel/9", "known+1-spring/3", "max(known,feel/2)", "0", "known");
        return "feels " + feels + ";lets " + lets + ";learns " + learns + ";rounds " + (1 + r.nextInt(5)) + ";slip "
            + pick("0", "100", "50", "7") + ";";
    }

    private String name() {
        String name = "";
        int length = 1 + r.nextInt(r.nextInt(30) == 0 ? 7 : 6);
        for (int i = 0; i < length; i++) {
            name += (char) ('a' + r.nextInt(length == 1 ? 26 : 5));
        }
        return name;
    }

    private String two() {
        if (lefts.isEmpty() || rights.isEmpty() || r.nextInt(80) == 0) {
            return pick("a", "b", "abc") + " " + pick("a", "b", "ed");
        }
        String l = lefts.get(r.nextInt(lefts.size()));
        String g = rights.get(r.nextInt(rights.size()));
        return r.nextBoolean() ? l + " " + g : g + " " + l;
    }

    private String statement() {
        boolean nobody = lefts.isEmpty() || rights.isEmpty();
        switch (r.nextInt(nobody && r.nextInt(100) > 0 ? 6 : 24)) {
            case 0: return "rounds " + (1 + r.nextInt(12));
            case 1: return "rounds " + (1 + r.nextInt(3));
            case 2: return "slip " + r.nextInt(101);
            case 3:
                if (toldFeels) {
                    return "slip 50";
                }
                toldFeels = true;
                return "feels " + sum(3, 0);
            case 4: return r.nextInt(3) == 0 && !toldFeels ? "lets " + test(3, 1) : "slip 9";
            case 5: return r.nextInt(3) == 0 && !toldFeels ? "learns " + sum(3, 2) : "slip 100";
            case 6: return r.nextInt(4) == 0 ? "kin " + two() : "rounds 4";
            case 7:
            case 8:
            case 9:
            case 10: return "knows " + two() + " " + r.nextInt(10);
            default: return "likes " + two() + " " + r.nextInt(10);
        }
    }

    private static final String[][] WORDS = {
        {"known", "spring", "warm", "work", "size", "liking"},
        {"known", "spring", "liking", "feel", "round", "waited", "feel"},
        {"known", "spring", "feel", "known"},
        {"number", "side", "warm", "work", "size", "waited", "wed", "spring", "round"}};

    private String test(int depth, int where) {
        if (r.nextInt(25) == 0) {
            return pick("not not not not not ", "[not[not[", "not [not [not [not [") + test(depth, where) + pick("", "]", "]]]");
        }
        switch (r.nextInt(depth > 0 ? 10 : 3)) {
            case 0: return r.nextInt(4) == 0 ? "all" : sum(depth - 1, where) + pick("<", ">", "=") + sum(depth - 1, where);
            case 1:
            case 2: return sum(0, where) + blank() + pick("<", ">", "<", ">", "=") + blank() + sum(depth - 1, where);
            case 3: return "not " + test(depth - 1, where);
            case 4: return "[" + test(depth - 1, where) + "]";
            case 5: return "not [" + test(depth - 1, where) + "]";
            case 6: return test(depth - 1, where) + " or " + test(depth - 1, where);
            case 7: return test(depth - 1, where) + " and " + test(depth - 1, where);
            default: return test(0, where) + pick(" and ", " or ") + test(0, where);
        }
    }

    private String sum(int depth, int where) {
        if (r.nextInt(60) == 0) {
            return "((((" + sum(depth, where) + "))))";
        }
        switch (r.nextInt(depth > 0 ? 10 : 3)) {
            case 0: return "" + r.nextInt(pickOf(3, 10, 20, 10000));
            case 1:
            case 2: return WORDS[where][r.nextInt(WORDS[where].length)];
            case 3: return "(" + sum(depth - 1, where) + ")";
            case 4: return pick("min", "max") + blank() + "(" + sum(depth - 1, where) + "," + sum(depth - 1, where) + ")";
            case 5: return where == 3 ? pick("likes ", "knows ") + sum(0, where) : sum(depth - 1, where) + "+1";
            case 6: return where == 3 ? pick("likes", "knows") + "(" + sum(depth - 1, where) + ")" : sum(depth - 1, where) + "*2";
            default: return sum(depth - 1, where) + blank() + pick("+", "-", "*", "/", "+") + blank() + sum(depth - 1, where);
        }
    }

    private int pickOf(int... of) {
        return of[r.nextInt(of.length)];
    }

    /** An image with the last springs in it, so that what can't be any more is met. */
    private void nearTheEnd() {
        int n = y.image();
        int[] bytes = new int[n];
        for (int i = 0; i < n; i++) {
            bytes[i] = y.octet(i);
        }
        int spring = 1000 - 1 - r.nextInt(r.nextBoolean() ? 3 : 30);
        bytes[0] = spring / 256;
        bytes[1] = spring % 256;
        bytes[2] = r.nextInt(y.has(5));
        tape(Check.checked(bytes));
        due("on", x.on(), y.on());
    }

    private int someone() {
        return r.nextInt(12) == 0 ? pickOf(-1, -2, 12, 99, Integer.MIN_VALUE, Integer.MAX_VALUE)
            : r.nextInt(Math.max(1, y.people.size() + (r.nextInt(10) == 0 ? 1 : 0)));
    }

    private int many(int most) {
        return r.nextInt(10) == 0 ? pickOf(-1, 0, 1, most, most + 1, Integer.MAX_VALUE, Integer.MIN_VALUE) : r.nextInt(most + 1);
    }

    private void anyCall() {
        int p = someone();
        int q = someone();
        int n = many(60);
        int what = r.nextInt(9) - 1;
        switch (r.nextInt(34)) {
            case 0: due("has " + what, x.has(what), y.has(what)); break;
            case 1: due("letter", x.letter(p, what), y.letter(p, what)); break;
            case 2: due("person " + p + " " + what, x.person(p, what), y.person(p, what)); break;
            case 3: due("pair " + p + " " + q + " " + what, x.pair(p, q, what), y.pair(p, q, what)); break;
            case 4:
                int k = r.nextInt(44) - 2;
                due("kept " + k + " " + what, x.kept(k, what), y.kept(k, what));
                due("has(7)", x.has(7), y.has(7));
                break;
            case 5: due("later " + p + " " + n, x.later(p, n), y.later(p, n)); break;
            case 6: due("when " + p, x.when(p), y.when(p)); break;
            case 7: due("pairs " + n, x.pairs(n), y.pairs(n)); break;
            case 8:
                for (int i = -2; i < 13; i++) {
                    due("match " + i, x.match(i), y.match(i));
                }
                break;
            case 9:
                for (int i = -1; i < 13; i++) {
                    due("steady " + i, x.steady(i), y.steady(i));
                }
                break;
            case 10: due("rather", x.rather(n - 1, what), y.rather(n - 1, what)); break;
            case 11: due("rather", x.rather(-1, what), y.rather(-1, what)); break;
            case 12: due("teach " + p + " " + n, x.teach(p, n), y.teach(p, n)); break;
            case 13:
                for (int i = -1; i < 5; i++) {
                    due("change " + n + " " + i, x.change(n, i), y.change(n, i));
                }
                break;
            case 14: due("odds " + p, x.odds(p), y.odds(p)); break;
            case 15: rows(); break;
            case 16: due("sizes " + p, x.sizes(p), y.sizes(p)); break;
            case 17:
                for (int i = -1; i < 4; i++) {
                    due("tells " + p + " " + i, x.tells(p, i), y.tells(p, i));
                }
                break;
            default: anyAct(p, q);
        }
    }

    private void rows() {
        int[] rows = new int[r.nextInt(8) == 0 ? r.nextInt(52) : 3 * (1 + r.nextInt(3))];
        for (int i = 0; i < rows.length; i++) {
            rows[i] = i % 3 == 0 ? r.nextInt(31) : i % 3 == 1 ? r.nextInt(Math.max(1, y.people.size())) : 0;
        }
        for (int i = 0; i + 2 < rows.length; i += 3) {
            PlainWedding.World w = y.behind(y.now, rows[i]);
            rows[i + 2] = w != null && y.is(rows[i + 1]) && w.wed[rows[i + 1]] >= 0 ? 1 : 0;
            if (r.nextInt(6) == 0) {
                rows[i + r.nextInt(3)] = pickOf(0, 1, 2, 30, 31, 255);
            }
        }
        tape(rows);
        due("see", x.see(), y.see());
        due("has(8)", x.has(8), y.has(8));
    }

    private void anyAct(int p, int q) {
        int n = r.nextInt(12) - 1;
        switch (r.nextInt(15)) {
            case 0:
            case 1:
                int m = r.nextInt(6) == 0 ? pickOf(0, 100, 101, -5, 30) : 1 + r.nextInt(4);
                due("rounds " + m, x.rounds(m), y.rounds(m));
                break;
            case 2:
            case 3:
                m = r.nextInt(6) == 0 ? pickOf(0, 100, 101, -5, 30) : 1 + r.nextInt(4);
                due("chance " + m, x.chance(m), y.chance(m));
                break;
            case 4:
            case 5:
            case 6: due("part " + p, x.part(p), y.part(p)); break;
            case 7: due("learn", x.learn(p, q, n), y.learn(p, q, n)); break;
            case 8: due("like", x.like(p, q, n), y.like(p, q, n)); break;
            case 9:
                int side = r.nextInt(6) == 0 ? pickOf(-1, 2) : r.nextInt(2);
                int a = r.nextInt(8) - 1;
                int b = r.nextInt(8) - 1;
                due("swap", x.swap(side, a, b), y.swap(side, a, b));
                break;
            case 10:
                for (int i = r.nextInt(4); i > 0; i--) {
                    due("undo", x.undo(), y.undo());
                }
                due("has(9)", x.has(9), y.has(9));
                break;
            case 11:
                int seed = r.nextInt(4) == 0 ? -1 - r.nextInt(9) : r.nextInt(Integer.MAX_VALUE);
                due("seed", x.seed(seed), y.seed(seed));
                break;
            case 12: question(); break;
            case 13: images(); break;
            default: imageBack();
        }
    }

    private void question() {
        tape(r.nextBoolean() ? pick("first ", "last ", "often ") + test(4, 3) : pick("total ", "most ", "least ") + sum(4, 3));
        if (r.nextInt(4) == 0) {
            spoilTape();
        }
        due("ask", x.ask(), y.ask());
        due("fault 0", x.fault(0), y.fault(0));
        due("fault 1", x.fault(1), y.fault(1));
    }

    private void images() {
        int n = y.image();
        due("image", x.image(), n);
        for (int i = -1; i <= n; i++) {
            due("octet " + i, x.octet(i), y.octet(i));
        }
    }

    private void imageBack() {
        int n = y.image();
        due("image", x.image(), n);
        int[] bytes = new int[n];
        for (int i = 0; i < n; i++) {
            bytes[i] = y.octet(i);
        }
        if (r.nextInt(3) > 0) {
            int at = r.nextInt(n);
            bytes[at] = pickOf(0, 1, 2, 3, 4, 5, 6, 7, 8, 9, 10, 11, 12, 99, 100, 255, bytes[r.nextInt(n)]);
            if (r.nextInt(4) > 0) {
                bytes = Check.checked(bytes);
            }
        }
        tape(bytes);
        due("on", x.on(), y.on());
        due("has(7)", x.has(7), y.has(7));
        due("has(9)", x.has(9), y.has(9));
    }
}
