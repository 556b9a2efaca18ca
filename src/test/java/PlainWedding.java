import java.util.ArrayList;
import java.util.HashMap;
import java.util.List;
import java.util.Map;
import java.util.TreeSet;
import java.util.function.ToIntFunction;

/**
 * The document told a second time, with the Java library and as slowly as one likes, so that the
 * class can be compared with it. It shares nothing with the class: tokens are cut ahead, formulas
 * are trees, people go by their numbers, and what is looked for is found by trying all.
 */
final class PlainWedding {
    static final class Fault extends RuntimeException {
        private static final long serialVersionUID = 1L;
        final int kind;
        final int place;

        Fault(int kind, int place) {
            this.kind = kind;
            this.place = place;
        }
    }

    /** A word, a number, another byte (kinds w, n, s) or the end (e). */
    record Token(char kind, String text, int start, boolean glued) {
    }

    interface Formula extends ToIntFunction<Map<String, Integer>> {
    }

    static final String OWN = " left right warm work size kin likes knows rounds feels lets learns slip liking"
        + " known feel round spring waited number side wed or and not all min max ";

    static List<Token> cut(String text) {
        List<Token> tokens = new ArrayList<>();
        int i = 0;
        while (i < text.length()) {
            char c = text.charAt(i);
            if (c == ' ' || c == '\n') {
                i++;
                continue;
            }
            String rest = text.substring(i);
            String whole = rest.replaceFirst("(?s)^([a-z]+|[0-9]+|.).*$", "$1");
            char kind = c >= 'a' && c <= 'z' ? 'w' : c >= '0' && c <= '9' ? 'n' : 's';
            boolean glued = false;
            if (!tokens.isEmpty() && kind != 's') {
                Token last = tokens.get(tokens.size() - 1);
                glued = last.kind != 's' && last.start + last.text.length() == i;
            }
            tokens.add(new Token(kind, whole, i, glued));
            i += whole.length();
        }
        tokens.add(new Token('e', "", text.length(), false));
        return tokens;
    }

    /** Reads formulas off tokens. */
    static class Parser {
        final List<Token> tokens;
        int at = 0;
        String words = "";
        boolean asking = false;

        Parser(String text) {
            tokens = cut(text);
        }

        Token here() {
            return tokens.get(at);
        }

        boolean is(String what) {
            return !here().glued && here().kind != 'e' && here().text.equals(what);
        }

        boolean take(String what) {
            if (is(what)) {
                at++;
                return true;
            }
            return false;
        }

        void need(String what) {
            if (!take(what)) {
                throw new Fault(1, here().start);
            }
        }

        int number(int least, int most) {
            Token t = here();
            if (t.kind != 'n' || t.glued) {
                throw new Fault(1, t.start);
            }
            if (t.text.length() > 4) {
                throw new Fault(1, t.start + 4);
            }
            int value = Integer.parseInt(t.text);
            if (value < least || value > most) {
                throw new Fault(2, t.start);
            }
            at++;
            return value;
        }

        void open(List<String> stack, String what) {
            if (stack.size() == 6) {
                throw new Fault(4, here().start);
            }
            stack.add(what);
            at++;
        }

        void close(List<String> stack) {
            stack.remove(stack.size() - 1);
        }

        Formula test(List<String> stack) {
            Formula f = both(stack);
            while (take("or")) {
                Formula a = f;
                Formula b = both(stack);
                f = m -> a.applyAsInt(m) != 0 || b.applyAsInt(m) != 0 ? 1 : 0;
            }
            return f;
        }

        Formula both(List<String> stack) {
            Formula f = fact(stack);
            while (take("and")) {
                Formula a = f;
                Formula b = fact(stack);
                f = m -> a.applyAsInt(m) != 0 && b.applyAsInt(m) != 0 ? 1 : 0;
            }
            return f;
        }

        Formula fact(List<String> stack) {
            if (is("not")) {
                open(stack, "not");
                Formula f = fact(stack);
                close(stack);
                return m -> 1 - f.applyAsInt(m);
            }
            if (is("[")) {
                open(stack, "[");
                Formula f = test(stack);
                need("]");
                close(stack);
                return f;
            }
            if (take("all")) {
                return m -> 1;
            }
            Formula a = sum(stack);
            if (take("<")) {
                Formula b = sum(stack);
                return m -> a.applyAsInt(m) < b.applyAsInt(m) ? 1 : 0;
            }
            if (take(">")) {
                Formula b = sum(stack);
                return m -> a.applyAsInt(m) > b.applyAsInt(m) ? 1 : 0;
            }
            need("=");
            Formula b = sum(stack);
            return m -> a.applyAsInt(m) == b.applyAsInt(m) ? 1 : 0;
        }

        static int held(long x) {
            return (int) Math.min(1000000, Math.max(-1000000, x));
        }

        Formula sum(List<String> stack) {
            Formula f = product(stack);
            while (is("+") || is("-")) {
                int sign = take("+") ? 1 : take("-") ? -1 : 0;
                Formula a = f;
                Formula b = product(stack);
                f = m -> held((long) a.applyAsInt(m) + sign * (long) b.applyAsInt(m));
            }
            return f;
        }

        static int whole(int a, int b) {
            return b == 0 ? 0 : (int) Math.floor((double) a / (double) b);
        }

        Formula product(List<String> stack) {
            Formula f = part(stack);
            while (is("*") || is("/")) {
                boolean times = take("*") || !take("/");
                Formula a = f;
                Formula b = part(stack);
                f = times ? m -> held((long) a.applyAsInt(m) * b.applyAsInt(m))
                    : m -> whole(a.applyAsInt(m), b.applyAsInt(m));
            }
            return f;
        }

        Formula part(List<String> stack) {
            Token t = here();
            if (t.kind == 'n') {
                int n = number(0, 9999);
                return m -> n;
            }
            if (is("(")) {
                open(stack, "(");
                Formula f = sum(stack);
                need(")");
                close(stack);
                return f;
            }
            if (is("min") || is("max")) {
                boolean least = is("min");
                at++;
                if (!is("(")) {
                    throw new Fault(1, here().start);
                }
                open(stack, "(");
                Formula a = sum(stack);
                need(",");
                Formula b = sum(stack);
                need(")");
                close(stack);
                return least ? m -> Math.min(a.applyAsInt(m), b.applyAsInt(m))
                    : m -> Math.max(a.applyAsInt(m), b.applyAsInt(m));
            }
            if (asking && (is("likes") || is("knows"))) {
                String what = t.text;
                open(stack, what);
                Formula f = part(stack);
                close(stack);
                return m -> m.getOrDefault(what + f.applyAsInt(m), 0);
            }
            if (t.kind == 'w' && !t.glued && words.contains(" " + t.text + " ")) {
                at++;
                return m -> m.get(t.text);
            }
            throw new Fault(1, t.start);
        }
    }

    static final class One {
        String name;
        int side;
        int warm;
        int work;
        int size;
    }

    /** What changes; people go by their numbers. */
    static final class World implements Cloneable {
        int spring = 0;
        int round = 0;
        List<List<Integer>> order = new ArrayList<>();
        int[] wed;
        int[] waited;
        int[] size;
        int[][] likes;
        int[][] knows;
        List<int[]> kept = new ArrayList<>();

        World copy() {
            World w = new World();
            w.spring = spring;
            w.round = round;
            for (List<Integer> o : order) {
                w.order.add(new ArrayList<>(o));
            }
            w.wed = wed.clone();
            w.waited = waited.clone();
            w.size = size.clone();
            w.likes = new int[likes.length][];
            w.knows = new int[knows.length][];
            for (int i = 0; i < likes.length; i++) {
                w.likes[i] = likes[i].clone();
                w.knows[i] = knows[i].clone();
            }
            w.kept = new ArrayList<>(kept);
            return w;
        }

        int wedPairs() {
            int n = 0;
            for (int x : wed) {
                n += x >= 0 ? 1 : 0;
            }
            return n / 2;
        }
    }

    List<Integer> tape = new ArrayList<>();
    List<One> people = new ArrayList<>();
    TreeSet<String> kin = new TreeSet<>();
    int roundsTold = 3;
    int slip = 0;
    Formula feels = m -> m.get("liking") + m.get("known");
    Formula lets = m -> m.get("feel") < 8 ? 1 : 0;
    Formula learns = m -> m.get("known") + 1;
    World now = new World();
    List<World> past = new ArrayList<>();
    List<int[]> seen = new ArrayList<>();
    long seed = 1;
    int[] refused = new int[6];
    int faultKind = 0;
    int faultPlace = -1;
    int[] image = {};

    PlainWedding() {
        now = first(new int[0][0], new int[0][0]);
    }

    private World first(int[][] likes, int[][] knows) {
        World w = new World();
        int n = people.size();
        w.wed = new int[n];
        w.waited = new int[n];
        w.size = new int[n];
        w.likes = likes;
        w.knows = knows;
        w.order.add(new ArrayList<>());
        w.order.add(new ArrayList<>());
        for (int i = 0; i < n; i++) {
            w.wed[i] = -1;
            w.size[i] = people.get(i).size;
            w.order.get(people.get(i).side).add(i);
        }
        return w;
    }

    String takeTape() {
        StringBuilder s = new StringBuilder();
        for (int b : tape) {
            s.append((char) b);
        }
        tape.clear();
        return s.toString();
    }

    int feed(int a, int b, int c, int d, int e) {
        if (tape.size() > 1580) {
            refused[0]++;
            return -1;
        }
        for (int x : new int[] {a, b, c, d, e}) {
            for (int k = 3; k >= 0; k--) {
                tape.add((int) ((x & 0xffffffffL) / (1L << (8 * k)) % 256));
            }
        }
        return tape.size();
    }

    boolean end(int n) {
        if (n < 0 || n > tape.size()) {
            refused[0]++;
            return false;
        }
        tape = new ArrayList<>(tape.subList(0, n));
        return true;
    }

    /** What is read of a church, taken over if it has no fault. */
    private static final class Reading {
        final List<One> all = new ArrayList<>();
        final TreeSet<String> kin = new TreeSet<>();
        final Map<String, Integer> likes = new HashMap<>();
        final Map<String, Integer> knows = new HashMap<>();
        final Map<String, Formula> formulas = new HashMap<>();
        int rounds = 3;
        int slip = 0;
        int told = 0;

        One named(String name) {
            for (One o : all) {
                if (o.name.equals(name)) {
                    return o;
                }
            }
            return null;
        }

        long onSide(int side) {
            return all.stream().filter(o -> o.side == side).count();
        }
    }

    private static String name(Parser p) {
        Token t = p.here();
        if (t.kind != 'w' || t.glued || OWN.contains(" " + t.text + " ")) {
            throw new Fault(1, t.start);
        }
        if (t.text.length() > 6) {
            throw new Fault(1, t.start + 6);
        }
        p.at++;
        return t.text;
    }

    private static One asked(Parser p, Reading r) {
        int start = p.here().start;
        One o = r.named(name(p));
        if (o == null) {
            throw new Fault(3, start);
        }
        return o;
    }

    private static void statement(Parser p, Reading r) {
        Token t = p.here();
        if (r.told == 60) {
            throw new Fault(5, t.start);
        }
        if (t.kind != 'w' || t.glued) {
            throw new Fault(1, t.start);
        }
        p.at++;
        switch (t.text) {
            case "left", "right" -> {
                int side = t.text.equals("left") ? 0 : 1;
                if (r.onSide(side) == 6) {
                    throw new Fault(5, t.start);
                }
                One o = new One();
                int start = p.here().start;
                o.name = name(p);
                o.side = side;
                if (r.named(o.name) != null) {
                    throw new Fault(3, start);
                }
                p.need("warm");
                o.warm = p.number(0, 9);
                p.need("work");
                o.work = p.number(0, 9);
                p.need("size");
                o.size = p.number(0, 9);
                r.all.add(o);
            }
            case "kin", "likes", "knows" -> {
                One a = asked(p, r);
                int start = p.here().start;
                One b = asked(p, r);
                if (a.side == b.side) {
                    throw new Fault(3, start);
                }
                if (t.text.equals("kin")) {
                    if (r.kin.contains(a.name + "-" + b.name)) {
                        throw new Fault(3, start);
                    }
                    r.kin.add(a.name + "-" + b.name);
                    r.kin.add(b.name + "-" + a.name);
                } else {
                    (t.text.equals("likes") ? r.likes : r.knows).put(a.name + "-" + b.name, p.number(0, 9));
                }
            }
            case "rounds" -> r.rounds = p.number(1, 12);
            case "slip" -> r.slip = p.number(0, 100);
            case "feels", "lets", "learns" -> {
                if (r.formulas.containsKey(t.text)) {
                    throw new Fault(5, t.start);
                }
                p.words = " known spring " + (t.text.equals("feels") ? "warm work size liking "
                    : t.text.equals("lets") ? "liking feel round waited " : "feel ");
                r.formulas.put(t.text, t.text.equals("lets") ? p.test(new ArrayList<>()) : p.sum(new ArrayList<>()));
            }
            default -> throw new Fault(1, t.start);
        }
        p.need(";");
        r.told++;
    }

    int church() {
        Reading r = new Reading();
        try {
            Parser p = new Parser(takeTape());
            while (p.here().kind != 'e') {
                statement(p, r);
            }
        } catch (Fault f) {
            faultKind = f.kind;
            faultPlace = f.place;
            refused[1]++;
            return -1;
        }
        faultKind = 0;
        faultPlace = -1;
        takeOver(r);
        return r.told;
    }

    private void takeOver(Reading r) {
        people = new ArrayList<>();
        for (int side = 0; side < 2; side++) {
            for (One o : r.all) {
                if (o.side == side) {
                    people.add(o);
                }
            }
        }
        int n = people.size();
        kin = new TreeSet<>();
        int[][] likes = new int[n][n];
        int[][] knows = new int[n][n];
        for (int i = 0; i < n; i++) {
            for (int j = 0; j < n; j++) {
                String key = people.get(i).name + "-" + people.get(j).name;
                if (people.get(i).side != people.get(j).side) {
                    likes[i][j] = r.likes.getOrDefault(key, 5);
                    knows[i][j] = r.knows.getOrDefault(key, 0);
                    if (r.kin.contains(key)) {
                        kin.add(i + "-" + j);
                    }
                }
            }
        }
        roundsTold = r.rounds;
        slip = r.slip;
        feels = r.formulas.getOrDefault("feels", m -> m.get("liking") + m.get("known"));
        lets = r.formulas.getOrDefault("lets", m -> m.get("feel") < 8 ? 1 : 0);
        learns = r.formulas.getOrDefault("learns", m -> m.get("known") + 1);
        now = first(likes, knows);
        past.clear();
        seen.clear();
    }

    int fault(int what) {
        return what == 0 ? faultKind : what == 1 ? faultPlace : -1;
    }

    boolean is(int person) {
        return person >= 0 && person < people.size();
    }

    boolean across(int a, int b) {
        return is(a) && is(b) && people.get(a).side != people.get(b).side;
    }

    boolean areKin(int a, int b) {
        return kin.contains(a + "-" + b);
    }

    int count(int side) {
        return now.order.get(side).size();
    }

    int has(int what) {
        return switch (what) {
            case 0 -> count(0);
            case 1 -> count(1);
            case 2 -> kin.size() / 2;
            case 3 -> now.spring;
            case 4 -> now.round;
            case 5 -> roundsTold;
            case 6 -> now.wedPairs();
            case 7 -> Math.min(40, now.kept.size());
            case 8 -> seen.size();
            case 9 -> past.size();
            default -> -1;
        };
    }

    int letter(int person, int k) {
        if (!is(person) || k < 0 || k > 5) {
            return -1;
        }
        String name = people.get(person).name;
        return k < name.length() ? name.charAt(k) - 96 : 0;
    }

    Map<Integer, Integer> hands(World w) {
        List<Integer> left = new ArrayList<>(w.order.get(0));
        List<Integer> right = new ArrayList<>(w.order.get(1));
        left.removeIf(p -> w.wed[p] >= 0);
        right.removeIf(p -> w.wed[p] >= 0);
        int places = Math.max(left.size(), right.size());
        Map<Integer, Integer> holds = new HashMap<>();
        for (int k = 0; k < left.size(); k++) {
            int other = (k + w.round) % places;
            if (other < right.size()) {
                holds.put(left.get(k), right.get(other));
                holds.put(right.get(other), left.get(k));
            }
        }
        return holds;
    }

    Map<String, Integer> facts(World w, int one, int other) {
        Map<String, Integer> m = new HashMap<>();
        m.put("known", w.knows[one][other]);
        m.put("spring", w.spring);
        m.put("warm", people.get(other).warm);
        m.put("work", people.get(other).work);
        m.put("size", w.size[other]);
        m.put("liking", w.likes[one][other]);
        m.put("round", w.round);
        m.put("waited", w.waited[one]);
        m.put("feel", Math.min(99, Math.max(0, feels.applyAsInt(m))));
        return m;
    }

    boolean letsGo(World w, int one, int other) {
        return lets.applyAsInt(facts(w, one, other)) != 0;
    }

    /** A ROUND: everything is read of the world ahead of it and written into another. */
    World round(World w, int trembling) {
        World next = w.copy();
        Map<Integer, Integer> holds = hands(w);
        for (int one = 0; one < people.size(); one++) {
            if (!holds.containsKey(one)) {
                continue;
            }
            int other = holds.get(one);
            next.knows[one][other] = Math.min(9, Math.max(0, learns.applyAsInt(facts(w, one, other))));
            boolean wed = one != trembling && other != trembling && !letsGo(w, one, other) && !letsGo(w, other, one)
                && !areKin(one, other);
            if (wed) {
                next.wed[one] = other;
                if (one < other) {
                    next.kept.add(new int[] {w.spring, w.round, one, other});
                }
            }
        }
        next.round++;
        if (next.round == roundsTold) {
            next.round = 0;
            next.spring++;
            for (int i = 0; i < people.size(); i++) {
                if (next.wed[i] < 0 && next.waited[i] < 99) {
                    next.waited[i]++;
                }
            }
        }
        return next;
    }

    /** The world behind n rounds, or null when one of them can't be. */
    World behind(World w, int n) {
        World x = w;
        for (int i = 0; i < n && x != null; i++) {
            x = x.spring == 999 && x.round == roundsTold - 1 ? null : round(x, -1);
        }
        return x;
    }

    int person(int person, int what) {
        if (!is(person)) {
            return -1;
        }
        One o = people.get(person);
        return switch (what) {
            case 0 -> o.warm;
            case 1 -> o.work;
            case 2 -> o.size;
            case 3 -> now.wed[person];
            case 4 -> now.waited[person];
            case 5 -> now.order.get(o.side).indexOf(person);
            case 6 -> hands(now).getOrDefault(person, -1);
            default -> -1;
        };
    }

    int pair(int one, int other, int what) {
        if (!across(one, other)) {
            return -1;
        }
        return switch (what) {
            case 0 -> now.likes[one][other];
            case 1 -> now.knows[one][other];
            case 2 -> facts(now, one, other).get("feel");
            case 3 -> letsGo(now, one, other) ? 1 : 0;
            case 4 -> areKin(one, other) ? 1 : 0;
            default -> -1;
        };
    }

    int kept(int k, int what) {
        List<int[]> told = now.kept.subList(Math.max(0, now.kept.size() - 40), now.kept.size());
        return k < 0 || k >= told.size() || what < 0 || what > 3 ? -1 : told.get(k)[what];
    }

    int later(int person, int n) {
        World w = n < 0 || n > 60 || !is(person) ? null : behind(now, n);
        return w == null ? -1 : w.wed[person];
    }

    int when(int person) {
        for (int n = 0; n <= 60 && is(person); n++) {
            World w = behind(now, n);
            if (w == null) {
                return -1;
            }
            if (w.wed[person] >= 0) {
                return n;
            }
        }
        return -1;
    }

    int pairs(int n) {
        World w = n < 0 || n > 60 ? null : behind(now, n);
        return w == null ? -1 : w.wedPairs();
    }

    private int bestTotal;
    private int[] bestMatch;

    private void matches(int left, int[] chosen, int total) {
        if (left == count(0)) {
            if (total > bestTotal) {
                bestTotal = total;
                bestMatch = chosen.clone();
            }
            return;
        }
        chosen[left] = -1;
        matches(left + 1, chosen, total);
        for (int right = count(0); right < people.size(); right++) {
            boolean free = !areKin(left, right);
            for (int i = 0; i < left; i++) {
                free &= chosen[i] != right;
            }
            if (free) {
                chosen[left] = right;
                matches(left + 1, chosen, total + now.likes[left][right] + now.likes[right][left]);
            }
        }
    }

    int match(int person) {
        bestTotal = -1;
        matches(0, new int[count(0)], 0);
        if (person == -1) {
            return bestTotal;
        }
        return person < 0 || person >= count(0) ? -1 : bestMatch[person];
    }

    int steady(int person) {
        Map<Integer, Integer> has = new HashMap<>();
        TreeSet<String> asked = new TreeSet<>();
        boolean goesOn = true;
        while (goesOn) {
            goesOn = false;
            for (int left = 0; left < count(0) && !goesOn; left++) {
                int best = -1;
                for (int right = people.size() - 1; right >= count(0); right--) {
                    if (!areKin(left, right) && !asked.contains(left + "-" + right)
                        && (best < 0 || now.likes[left][right] >= now.likes[left][best])) {
                        best = right;
                    }
                }
                if (has.containsKey(left) || best < 0) {
                    continue;
                }
                goesOn = true;
                asked.add(left + "-" + best);
                Integer had = has.get(best);
                if (had == null || now.likes[best][left] > now.likes[best][had]) {
                    if (had != null) {
                        has.remove(had);
                    }
                    has.put(best, left);
                    has.put(left, best);
                }
            }
        }
        return has.getOrDefault(person, -1);
    }

    int rather(int k, int what) {
        List<int[]> all = new ArrayList<>();
        for (int l = 0; l < count(0); l++) {
            for (int r = count(0); r < people.size(); r++) {
                boolean one = now.wed[l] < 0 || now.likes[l][r] > now.likes[l][now.wed[l]];
                boolean other = now.wed[r] < 0 || now.likes[r][l] > now.likes[r][now.wed[r]];
                if (one && other && now.wed[l] != r && !areKin(l, r)) {
                    all.add(new int[] {l, r});
                }
            }
        }
        if (k == -1) {
            return all.size();
        }
        return k < 0 || k >= all.size() || what < 0 || what > 1 ? -1 : all.get(k)[what];
    }

    int teach(int person, int n) {
        if (!is(person) || n < 1 || n > 40) {
            return -1;
        }
        int side = 1 - people.get(person).side;
        int first = side == 0 ? 0 : count(0);
        int best = -1;
        for (int bits = 0; bits < 1 << count(side); bits++) {
            World w = now.copy();
            for (int k = 0; k < count(side); k++) {
                if ((bits >> k) % 2 == 1) {
                    w.knows[person][first + k] = 9;
                }
            }
            w = behind(w, n);
            if (w != null && w.wed[person] >= 0 && (best < 0 || Integer.bitCount(bits) < Integer.bitCount(best))) {
                best = bits;
            }
        }
        return best;
    }

    int change(int n, int what) {
        World w = n < 1 || n > 40 ? null : behind(now, n);
        if (w == null) {
            return -1;
        }
        int[] best = {-1, -1, -1, w.wedPairs()};
        for (int side = 0; side < 2; side++) {
            for (int a = 0; a < count(side); a++) {
                for (int b = a + 1; b < count(side); b++) {
                    World x = now.copy();
                    java.util.Collections.swap(x.order.get(side), a, b);
                    int wed = behind(x, n).wedPairs();
                    if (wed > best[3]) {
                        best = new int[] {side, a, b, wed};
                    }
                }
            }
        }
        return what < 0 || what > 3 ? -1 : best[what];
    }

    int odds(int person) {
        if (people.isEmpty() || behind(now, 1) == null || person < -1 || person >= people.size()) {
            return -1;
        }
        int rows = 0;
        for (int number = 0; number < 100; number++) {
            for (int one = 0; one < people.size(); one++) {
                if (person == -1 || round(now, number < slip ? one : -1).wed[person] >= 0) {
                    rows++;
                }
            }
        }
        return rows;
    }

    int see() {
        String rows = takeTape();
        List<int[]> told = new ArrayList<>();
        for (int i = 0; i + 2 < rows.length(); i += 3) {
            told.add(new int[] {rows.charAt(i), rows.charAt(i + 1), rows.charAt(i + 2)});
        }
        boolean good = rows.length() % 3 == 0 && !told.isEmpty() && told.size() <= 16;
        for (int[] row : told) {
            good &= row[0] <= 30 && is(row[1]) && row[2] <= 1;
        }
        if (!good) {
            refused[1]++;
            return -1;
        }
        seen = told;
        return told.size();
    }

    private World withSize(int person, int size) {
        World w = now.copy();
        w.size[person] = size;
        return w;
    }

    int sizes(int person) {
        if (!is(person)) {
            return -1;
        }
        int bits = 0;
        for (int size = 0; size < 10; size++) {
            boolean fits = true;
            for (int[] row : seen) {
                World w = behind(withSize(person, size), row[0]);
                fits &= w != null && (w.wed[row[1]] >= 0 ? 1 : 0) == row[2];
            }
            bits += fits ? 1 << size : 0;
        }
        return bits;
    }

    int tells(int person, int what) {
        int sizes = sizes(person);
        int[] best = null;
        for (int n = 1; n <= 30 && sizes > 0; n++) {
            if (behind(now, n) == null) {
                break;
            }
            int[] wed = new int[people.size()];
            for (int size = 0; size < 10; size++) {
                if ((sizes >> size) % 2 == 1) {
                    World w = behind(withSize(person, size), n);
                    for (int q = 0; q < wed.length; q++) {
                        wed[q] += w.wed[q] >= 0 ? 1 : 0;
                    }
                }
            }
            for (int q = 0; q < wed.length; q++) {
                int left = Math.max(wed[q], Integer.bitCount(sizes) - wed[q]);
                if (best == null || left < best[2]) {
                    best = new int[] {n, q, left};
                }
            }
        }
        return best == null || what < 0 || what > 2 ? -1 : best[what];
    }

    private void act() {
        past.add(now);
        if (past.size() > 20) {
            past.remove(0);
        }
        now = now.copy();
    }

    int rounds(int n) {
        World w = n < 1 || n > 100 ? null : behind(now, n);
        if (w == null) {
            refused[3]++;
            return -1;
        }
        int wed = w.wedPairs() - now.wedPairs();
        act();
        now = w;
        return wed;
    }

    private int draw(int m) {
        seed = java.math.BigInteger.valueOf(1103515245).multiply(java.math.BigInteger.valueOf(seed))
            .add(java.math.BigInteger.valueOf(12345)).mod(java.math.BigInteger.valueOf(1L << 31)).longValue();
        return (int) (seed / 64 % m);
    }

    int chance(int n) {
        if (n < 1 || n > 100 || behind(now, n) == null) {
            refused[3]++;
            return -1;
        }
        act();
        int times = 0;
        for (int i = 0; i < n; i++) {
            int one = draw(100) < slip && !people.isEmpty() ? draw(people.size()) : -1;
            times += one >= 0 ? 1 : 0;
            now = round(now, one);
        }
        return times;
    }

    private boolean refuse(int kind) {
        refused[kind]++;
        return false;
    }

    boolean part(int person) {
        if (!is(person) || now.wed[person] < 0) {
            return refuse(2);
        }
        act();
        int other = now.wed[person];
        now.wed[person] = -1;
        now.wed[other] = -1;
        now.waited[person] = 0;
        now.waited[other] = 0;
        return true;
    }

    boolean learn(int one, int other, int n) {
        if (!across(one, other) || n < 0 || n > 9 || now.knows[one][other] == n) {
            return refuse(2);
        }
        act();
        now.knows[one][other] = n;
        return true;
    }

    boolean like(int one, int other, int n) {
        if (!across(one, other) || n < 0 || n > 9 || now.likes[one][other] == n) {
            return refuse(2);
        }
        act();
        now.likes[one][other] = n;
        return true;
    }

    boolean swap(int side, int a, int b) {
        if (side < 0 || side > 1 || a == b || Math.min(a, b) < 0 || Math.max(a, b) >= count(side)) {
            return refuse(2);
        }
        act();
        java.util.Collections.swap(now.order.get(side), a, b);
        return true;
    }

    boolean undo() {
        if (past.isEmpty()) {
            return refuse(4);
        }
        now = past.remove(past.size() - 1);
        return true;
    }

    boolean seed(int x) {
        if (x < 0) {
            return refuse(5);
        }
        seed = x;
        return true;
    }

    long ask() {
        String kind;
        Formula f;
        try {
            Parser p = new Parser(takeTape());
            p.asking = true;
            p.words = " number side warm work size waited wed spring round ";
            Token t = p.here();
            kind = t.text;
            if (!List.of("first", "last", "often", "total", "most", "least").contains(kind)) {
                throw new Fault(1, t.start);
            }
            p.at++;
            f = List.of("first", "last", "often").contains(kind) ? p.test(new ArrayList<>()) : p.sum(new ArrayList<>());
            if (p.here().kind != 'e') {
                throw new Fault(1, p.here().start);
            }
        } catch (Fault fault) {
            faultKind = fault.kind;
            faultPlace = fault.place;
            return -1000000000000000L;
        }
        faultKind = 0;
        faultPlace = -1;
        List<Integer> values = new ArrayList<>();
        for (int i = 0; i < people.size(); i++) {
            values.add(f.applyAsInt(askedFacts(i)));
        }
        return switch (kind) {
            case "first" -> values.indexOf(1);
            case "last" -> values.lastIndexOf(1);
            case "most" -> values.isEmpty() ? 0 : java.util.Collections.max(values);
            case "least" -> values.isEmpty() ? 0 : java.util.Collections.min(values);
            default -> values.stream().mapToLong(v -> v).sum();
        };
    }

    private Map<String, Integer> askedFacts(int i) {
        One o = people.get(i);
        Map<String, Integer> m = new HashMap<>();
        m.put("number", i);
        m.put("side", o.side);
        m.put("warm", o.warm);
        m.put("work", o.work);
        m.put("size", o.size);
        m.put("waited", now.waited[i]);
        m.put("wed", now.wed[i] >= 0 ? 1 : 0);
        m.put("spring", now.spring);
        m.put("round", now.round);
        for (int j = 0; j < people.size(); j++) {
            if (across(i, j)) {
                m.put("likes" + j, now.likes[i][j]);
                m.put("knows" + j, now.knows[i][j]);
            }
        }
        return m;
    }

    int image() {
        List<Integer> b = new ArrayList<>(List.of(now.spring / 256, now.spring % 256, now.round));
        b.addAll(now.order.get(0));
        b.addAll(now.order.get(1));
        for (int i = 0; i < people.size(); i++) {
            b.add(now.wed[i] < 0 ? 255 : now.wed[i]);
            b.add(now.waited[i]);
            for (int j = 0; j < people.size(); j++) {
                if (across(i, j)) {
                    b.add(now.likes[i][j]);
                    b.add(now.knows[i][j]);
                }
            }
        }
        int c = 163;
        for (int x : b) {
            c = (3 * c + x) % 251;
        }
        b.add(c);
        image = b.stream().mapToInt(x -> x).toArray();
        return image.length;
    }

    int octet(int k) {
        return k >= 0 && k < image.length ? image[k] : -1;
    }

    boolean on() {
        String bytes = takeTape();
        World w = now.copy();
        try {
            readImage(bytes, w);
        } catch (Fault f) {
            return refuse(5);
        }
        now = w;
        past.clear();
        return true;
    }

    private static int upTo(int x, int most) {
        if (x > most) {
            throw new Fault(0, 0);
        }
        return x;
    }

    private void readImage(String bytes, World w) {
        int at = 3;
        int c = 163;
        int length = 4 + 3 * people.size() + 4 * count(0) * count(1);
        if (bytes.length() != length) {
            throw new Fault(0, 0);
        }
        for (int i = 0; i < length - 1; i++) {
            c = (3 * c + bytes.charAt(i)) % 251;
        }
        if (c != bytes.charAt(length - 1)) {
            throw new Fault(0, 0);
        }
        w.spring = upTo(bytes.charAt(0) * 256 + bytes.charAt(1), 999);
        w.round = upTo(bytes.charAt(2), roundsTold - 1);
        for (List<Integer> order : w.order) {
            TreeSet<Integer> wanted = new TreeSet<>(order);
            for (int i = 0; i < order.size(); i++) {
                order.set(i, (int) bytes.charAt(at++));
            }
            if (!new TreeSet<>(order).equals(wanted)) {
                throw new Fault(0, 0);
            }
        }
        for (int i = 0; i < people.size(); i++) {
            int to = bytes.charAt(at++);
            w.wed[i] = to == 255 ? -1 : to;
            w.waited[i] = upTo(bytes.charAt(at++), 99);
            for (int j = 0; j < people.size(); j++) {
                if (across(i, j)) {
                    w.likes[i][j] = upTo(bytes.charAt(at++), 9);
                    w.knows[i][j] = upTo(bytes.charAt(at++), 9);
                }
            }
        }
        for (int i = 0; i < people.size(); i++) {
            int to = w.wed[i];
            if (to >= 0 && (!across(i, to) || w.wed[to] != i || areKin(i, to))) {
                throw new Fault(0, 0);
            }
        }
        w.kept = new ArrayList<>();
    }

    int status(int what) {
        return what < 0 || what > 5 ? -1 : refused[what];
    }
}
