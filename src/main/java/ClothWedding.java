import java.util.Arrays;

/**
 * A wedding at which nobody knows who is to be wed: people on two sides of a cloth hold whatever
 * hand is given to them, and who both hold on are wed. The promises are those of DOC.md.
 *
 * <p>Inside, each of the people has a slot: 0 to 5 on the left, 6 to 11 on the right. The numbers
 * that the document speaks of depend on how many the left has, which is known only behind the whole
 * text; slots are known at once, so all but the face speaks of slots.
 */
public final class ClothWedding {
    public static final int NONE = -1;
    public static final long NOTHING = -1000000000000000L;

    private static final int SIDE = 6;
    private static final int ALL = 12;
    private static final int TAPE = 1600;
    private static final int STATEMENTS_MOST = 60;
    private static final int OPEN_MOST = 6;
    private static final int NAME_MOST = 6;
    private static final int DIGITS_MOST = 4;
    private static final int SPRINGS = 1000;
    private static final int WAITED_MOST = 99;
    private static final int FEEL_MOST = 99;
    private static final int LIKING_MOST = 9;
    private static final int VALUE_MOST = 1000000;
    private static final int ACTS_MOST = 20;
    private static final int KEPT_TOLD = 40;
    private static final int SEEN_MOST = 16;
    private static final int SEEN_ROUNDS = 30;
    private static final int SIZES = 10;
    private static final int IMAGE_MOST = 184;

    private static final int FEELS = 0;
    private static final int LETS = 1;
    private static final int LEARNS = 2;

    private static final String OWN_WORDS = "left right warm work size kin likes knows rounds feels lets learns slip liking known feel round spring waited number side wed or and not all min max";
    private static final String STATEMENTS = "left right kin likes knows rounds feels lets learns slip";
    private static final String QUESTIONS = "first last often total most least";

    // Each word's place in its list is the place of its value among the facts.
    private static final String CHURCH_PARTS = "known spring liking warm work size feel round waited";
    private static final int KNOWN = 0;
    private static final int LIKING = 2;
    private static final int FEEL = 6;
    private static final int[] PARTS_OF = {
        0b000111111, 0b111000111, 0b001000011};
    private static final String QUESTION_PARTS = "number side warm work size waited wed spring round";
    private static final int QUESTION_WORDS = 0b111111111;
    private static final int LIKES_FACTS = 9;
    private static final int KNOWS_FACTS = LIKES_FACTS + ALL;
    private static final int FACTS = KNOWS_FACTS + ALL;

    // What stands in code: numbers are themselves, then words, then operators.
    private static final int WORD = 10000;
    private static final int OF_TWO = 20000;
    private static final int ADD = 20001;
    private static final int SUBTRACT = 20002;
    private static final int MULTIPLY = 20003;
    private static final int DIVIDE = 20004;
    private static final int LESSER = 20005;
    private static final int GREATER = 20006;
    private static final int BELOW = 20007;
    private static final int ABOVE = 20008;
    private static final int SAME = 20009;
    private static final int AND = 20010;
    private static final int OR = 20011;
    private static final int OF_ONE = 30000;
    private static final int NOT = 30001;
    private static final int LIKES = 30002;
    private static final int KNOWS = 30003;

    private final int[] tape = new int[TAPE];
    private int taped = 0;
    private final Text text = new Text(tape);
    private final Question question = new Question(text);
    private final ChurchReader reader = new ChurchReader(text, question.grammar);
    private Church church = new Church();
    private Church spare = new Church();
    private final State now = new State();
    private final Walk walk = new Walk(church);
    private final Ahead ahead = new Ahead(walk);
    private final Likings likings = new Likings();
    private final Past past = new Past();
    private final int[] seen = new int[SEEN_MOST * 3];
    private int seenRows = 0;
    private final int[] picture = new int[IMAGE_MOST];
    private int pictured = 0;
    private final int[] refused = new int[6];
    private int faultKind = 0;
    private int faultPlace = NONE;
    private long drawn = 1;

    public ClothWedding() {
        church.complete();
        now.begin(church);
    }

    // ---- the tape

    public int feed(int a, int b, int c, int d, int e) {
        if (taped + 20 > TAPE) {
            return refuse(0);
        }
        putFour(a);
        putFour(b);
        putFour(c);
        putFour(d);
        putFour(e);
        return taped;
    }

    public boolean end(int n) {
        if (n < 0 || n > taped) {
            refuse(0);
            return false;
        }
        taped = n;
        return true;
    }

    private void putFour(int number) {
        for (int shift = 24; shift >= 0 && taped < TAPE; shift -= 8) {
            tape[taped] = (number >>> shift) & 255;
            taped++;
        }
    }

    private int takeTape() {
        int length = taped;
        taped = 0;
        return length;
    }

    private int refuse(int kind) {
        refused[kind]++;
        return NONE;
    }

    // ---- the church

    public int church() {
        text.open(takeTape());
        int told = reader.read(spare);
        takeFault();
        if (faultKind != 0) {
            return refuse(1);
        }
        Church old = church;
        church = spare;
        spare = old;
        walk.church = church;
        now.begin(church);
        past.forget();
        seenRows = 0;
        return told;
    }

    private void takeFault() {
        faultKind = text.fault;
        faultPlace = text.place;
    }

    public int fault(int what) {
        if (what == 0) {
            return faultKind;
        }
        return what == 1 ? faultPlace : NONE;
    }

    public int has(int what) {
        switch (what) {
            case 0: return church.count[0];
            case 1: return church.count[1];
            case 2: return church.kinCount;
            case 3: return now.spring;
            case 4: return now.round;
            case 5: return church.roundsTold;
            case 6: return now.wedPairs();
            case 7: return past.keptTold();
            case 8: return seenRows;
            case 9: return past.acts;
            default: return NONE;
        }
    }

    public int letter(int person, int k) {
        int slot = church.slot(person);
        if (slot == NONE || k < 0 || k >= NAME_MOST) {
            return NONE;
        }
        return church.names[slot * NAME_MOST + k];
    }

    public int person(int person, int what) {
        int slot = church.slot(person);
        if (slot == NONE) {
            return NONE;
        }
        switch (what) {
            case 0: return church.warm[slot];
            case 1: return church.work[slot];
            case 2: return church.size[slot];
            case 3: return church.number(now.wed[slot]);
            case 4: return now.waited[slot];
            case 5: return now.place(slot, church.count[sideOf(slot)]);
            case 6:
                walk.giveHands(now);
                return church.number(walk.holds[slot]);
            default: return NONE;
        }
    }

    public int pair(int one, int other, int what) {
        int slot = church.slot(one);
        int across = church.across(slot, other);
        if (across == NONE) {
            return NONE;
        }
        switch (what) {
            case 0: return now.likes[cell(slot, across)];
            case 1: return now.knows[cell(slot, across)];
            case 2: return walk.feel(now, slot, across);
            case 3:
                walk.feel(now, slot, across);
                return walk.letsGo() ? 1 : 0;
            case 4: return church.areKin(slot, across) ? 1 : 0;
            default: return NONE;
        }
    }

    public int kept(int k, int what) {
        if (k < 0 || k >= past.keptTold() || what < 0 || what > 3) {
            return NONE;
        }
        int told = past.keptCell(k, what);
        return what < 2 ? told : church.number(told);
    }

    // ---- ahead

    public int later(int person, int n) {
        int slot = church.slot(person);
        if (slot == NONE || !ahead.canCome(now, n, 0, 60)) {
            return NONE;
        }
        return church.number(ahead.behind(now, n).wed[slot]);
    }

    public int when(int person) {
        int slot = church.slot(person);
        return slot == NONE ? NONE : ahead.firstWed(now, slot);
    }

    public int pairs(int n) {
        return ahead.canCome(now, n, 0, 60) ? ahead.behind(now, n).wedPairs() : NONE;
    }

    // ---- likings

    public int match(int person) {
        int total = likings.findMatch(church, now);
        if (person == NONE) {
            return total;
        }
        int slot = church.slot(person);
        return slot == NONE || slot >= SIDE ? NONE : church.number(likings.mate[slot]);
    }

    public int steady(int person) {
        int slot = church.slot(person);
        if (slot == NONE) {
            return NONE;
        }
        likings.findSteady(church, now);
        return church.number(likings.mate[slot]);
    }

    public int rather(int k, int what) {
        int count = likings.findRather(church, now);
        if (k == NONE) {
            return count;
        }
        if (k < 0 || k >= count || what < 0 || what > 1) {
            return NONE;
        }
        return church.number(likings.rathers[2 * k + what]);
    }

    // ---- teaching, changes

    public int teach(int person, int n) {
        int slot = church.slot(person);
        return slot != NONE && ahead.canCome(now, n, 1, 40) ? ahead.lessons(now, slot, n) : NONE;
    }

    public int change(int n, int what) {
        if (what < 0 || what > 3 || !ahead.canCome(now, n, 1, 40)) {
            return NONE;
        }
        ahead.findChange(now, n);
        return ahead.found[what];
    }

    public int odds(int person) {
        if (church.people() == 0 || !ahead.canCome(now, 1, 1, 1)) {
            return NONE;
        }
        if (person == NONE) {
            return 100 * church.people();
        }
        int slot = church.slot(person);
        return slot == NONE ? NONE : ahead.oddsOf(now, slot);
    }

    // ---- how small a hand is

    public int see() {
        int length = takeTape();
        if (length < 3 || length > SEEN_MOST * 3 || length % 3 != 0 || !tellsSeen(length)) {
            return refuse(1);
        }
        for (int i = 0; i + 2 < length; i += 3) {
            seen[i] = tape[i];
            seen[i + 1] = church.slot(tape[i + 1]);
            seen[i + 2] = tape[i + 2];
        }
        seenRows = length / 3;
        return seenRows;
    }

    private boolean tellsSeen(int length) {
        for (int i = 0; i + 2 < length; i += 3) {
            if (tape[i] > SEEN_ROUNDS || church.slot(tape[i + 1]) == NONE || tape[i + 2] > 1) {
                return false;
            }
        }
        return true;
    }

    public int sizes(int person) {
        int slot = church.slot(person);
        return slot == NONE ? NONE : ahead.sizesLeft(now, slot, seen, seenRows);
    }

    public int tells(int person, int what) {
        int slot = church.slot(person);
        if (slot == NONE || what < 0 || what > 2) {
            return NONE;
        }
        int left = ahead.sizesLeft(now, slot, seen, seenRows);
        return ahead.findTelling(now, slot, left) ? ahead.found[what] : NONE;
    }

    // ---- acts

    public int rounds(int n) {
        if (!ahead.canCome(now, n, 1, 100)) {
            return refuse(3);
        }
        past.remember(now);
        int wed = 0;
        for (int i = 0; i < n; i++) {
            wed += actRound(NONE);
        }
        return wed;
    }

    public int chance(int n) {
        if (!ahead.canCome(now, n, 1, 100)) {
            return refuse(3);
        }
        past.remember(now);
        int trembled = 0;
        for (int i = 0; i < n; i++) {
            int trembling = NONE;
            if (draw(100) < church.slip && church.people() > 0) {
                trembling = church.slot(draw(church.people()));
                trembled++;
            }
            actRound(trembling);
        }
        return trembled;
    }

    private int actRound(int trembling) {
        int spring = now.spring;
        int round = now.round;
        int wed = walk.go(now, trembling);
        for (int i = 0; i < wed; i++) {
            int left = walk.fresh[i];
            past.keep(spring, round, left, now.wed[left]);
        }
        return wed;
    }

    private int draw(int of) {
        drawn = (1103515245L * drawn + 12345L) & 0x7fffffffL;
        return of > 0 ? (int) ((drawn / 64) % of) : 0;
    }

    public boolean part(int person) {
        int slot = church.slot(person);
        int other = slot == NONE ? NONE : now.wed[slot];
        if (other == NONE) {
            refuse(2);
            return false;
        }
        past.remember(now);
        now.wed[slot] = NONE;
        now.wed[other] = NONE;
        now.waited[slot] = 0;
        now.waited[other] = 0;
        return true;
    }

    public boolean learn(int one, int other, int n) {
        return setBearing(now.knows, one, other, n);
    }

    public boolean like(int one, int other, int n) {
        return setBearing(now.likes, one, other, n);
    }

    private boolean setBearing(int[] bearings, int one, int other, int n) {
        int slot = church.slot(one);
        int across = church.across(slot, other);
        if (across == NONE || n < 0 || n > LIKING_MOST || bearings[cell(slot, across)] == n) {
            refuse(2);
            return false;
        }
        past.remember(now);
        bearings[cell(slot, across)] = n;
        return true;
    }

    public boolean swap(int side, int a, int b) {
        if (side < 0 || side > 1 || a == b || !isPlace(side, a) || !isPlace(side, b)) {
            refuse(2);
            return false;
        }
        past.remember(now);
        now.exchange(side, a, b);
        return true;
    }

    private boolean isPlace(int side, int place) {
        return place >= 0 && place < church.count[side];
    }

    public boolean undo() {
        if (!past.recall(now)) {
            refuse(4);
            return false;
        }
        return true;
    }

    public boolean seed(int seed) {
        if (seed < 0) {
            refuse(5);
            return false;
        }
        drawn = seed;
        return true;
    }

    // ---- questions

    public long ask() {
        text.open(takeTape());
        question.read();
        takeFault();
        return faultKind == 0 ? question.answer(church, now) : NOTHING;
    }

    // ---- images, refusals

    public int image() {
        pictured = now.write(church, picture);
        return pictured;
    }

    public int octet(int k) {
        return k >= 0 && k < pictured ? picture[k] : NONE;
    }

    public boolean on() {
        int length = takeTape();
        State told = ahead.scratch;
        told.take(now);
        if (!told.read(church, tape, length)) {
            refuse(5);
            return false;
        }
        now.take(told);
        past.forget();
        return true;
    }

    public int status(int what) {
        return what >= 0 && what < refused.length ? refused[what] : NONE;
    }

    // ---- slots and numbers

    private static int sideOf(int slot) {
        return slot < SIDE ? 0 : 1;
    }

    private static int cell(int one, int other) {
        return one * SIDE + other % SIDE;
    }

    private static int within(int x, int most) {
        return Math.max(0, Math.min(x, most));
    }

    private static boolean isLetter(int c) {
        return c >= 'a' && c <= 'z';
    }

    private static boolean isDigit(int c) {
        return c >= '0' && c <= '9';
    }

    /** Reads a text word by word; the first fault stays, and behind it nothing more is taken. */
    private static final class Text {
        final int[] bytes;
        int length = 0;
        int at = 0;
        int fault = 0;
        int place = NONE;

        Text(int[] bytes) {
            this.bytes = bytes;
        }

        void open(int newLength) {
            length = newLength;
            at = 0;
            fault = 0;
            place = NONE;
        }

        boolean sound() {
            return fault == 0;
        }

        void fail(int kind, int where) {
            if (fault == 0) {
                fault = kind;
                place = where;
            }
        }

        int byteAt(int i) {
            return i >= 0 && i < length && i < bytes.length ? bytes[i] : NONE;
        }

        int begin() {
            while (at < length && at < bytes.length && (bytes[at] == 32 || bytes[at] == 10)) {
                at++;
            }
            return at;
        }

        boolean ended() {
            return begin() >= length;
        }

        boolean takeSign(int sign) {
            if (!sound() || byteAt(begin()) != sign) {
                return false;
            }
            at++;
            return true;
        }

        void needSign(int sign) {
            if (!takeSign(sign)) {
                fail(1, at);
            }
        }

        /** 0 where no word stands; one that stands right behind a number is none. */
        int wordLength() {
            int start = begin();
            if (!sound() || isDigit(byteAt(start - 1))) {
                return 0;
            }
            int end = start;
            while (end < length && isLetter(byteAt(end))) {
                end++;
            }
            return end - start;
        }

        /** The place of the next word in a list of words with blanks between; it is not taken. */
        int wordIn(String list) {
            return listed(list, wordLength());
        }

        private int listed(String list, int wanted) {
            int index = 0;
            int first = 0;
            boolean same = wanted > 0;
            for (int i = 0; i <= list.length(); i++) {
                if (i < list.length() && list.charAt(i) != ' ') {
                    same = same && list.charAt(i) == byteAt(at + i - first);
                } else if (same && i - first == wanted) {
                    return index;
                } else {
                    index++;
                    first = i + 1;
                    same = wanted > 0;
                }
            }
            return NONE;
        }

        void passWord() {
            at += wordLength();
        }

        boolean takeWord(String word) {
            int count = wordLength();
            if (count != word.length() || listed(word, count) == NONE) {
                return false;
            }
            at += count;
            return true;
        }

        void needWord(String word) {
            if (!takeWord(word)) {
                fail(1, at);
            }
        }

        int takeNumber(int least, int most) {
            int start = begin();
            if (!isDigit(byteAt(start)) || isLetter(byteAt(start - 1))) {
                fail(1, start);
                return least;
            }
            int value = 0;
            int end = start;
            while (end < start + DIGITS_MOST && isDigit(byteAt(end))) {
                value = value * 10 + byteAt(end) - '0';
                end++;
            }
            if (isDigit(byteAt(end))) {
                fail(1, end);
            } else if (value < least || value > most) {
                fail(2, start);
            }
            at = end;
            return sound() ? value : least;
        }

        /** Puts a NAME's letters, as 1 .. 26, into six cells, 0 behind them. */
        void takeName(int[] letters) {
            int count = wordLength();
            if (count == 0 || listed(OWN_WORDS, count) != NONE) {
                fail(1, at);
            } else if (count > NAME_MOST) {
                fail(1, at + NAME_MOST);
            }
            for (int i = 0; i < NAME_MOST && i < letters.length; i++) {
                letters[i] = sound() && i < count ? byteAt(at + i) - 'a' + 1 : 0;
            }
            at += count;
        }
    }

    /** Formulas behind one another, each operator behind what it takes. */
    private static final class Code {
        private final int[] ops = new int[TAPE + 16];
        private int used = 0;
        private final int[] from = {NONE, NONE, NONE};
        private final int[] to = {NONE, NONE, NONE};
        // Six may be open at once, and at most six values wait at each level.
        private final int[] stack = new int[64];

        void clear() {
            used = 0;
            Arrays.fill(from, NONE);
            Arrays.fill(to, NONE);
        }

        boolean holds(int formula) {
            return from[formula] != NONE;
        }

        void begin(int formula) {
            from[formula] = used;
        }

        void finish(int formula) {
            to[formula] = used;
        }

        void put(int op) {
            if (used < ops.length) {
                ops[used] = op;
                used++;
            }
        }

        int value(int formula, int[] facts) {
            int top = 0;
            for (int i = Math.max(from[formula], 0); i < to[formula] && i < used; i++) {
                int op = ops[i];
                if (op < OF_TWO) {
                    if (top < stack.length) {
                        stack[top] = op < WORD ? op : fact(facts, op - WORD);
                        top++;
                    }
                } else if (op < OF_ONE) {
                    if (top > 1) {
                        top--;
                        stack[top - 1] = ofTwo(op, stack[top - 1], stack[top]);
                    }
                } else if (top > 0) {
                    stack[top - 1] = ofOne(op, stack[top - 1], facts);
                }
            }
            return top > 0 ? stack[0] : 0;
        }

        private static int fact(int[] facts, int k) {
            return k >= 0 && k < facts.length ? facts[k] : 0;
        }

        private static int ofOne(int op, int x, int[] facts) {
            if (op == NOT) {
                return x == 0 ? 1 : 0;
            }
            if (x < 0 || x >= ALL) {
                return 0;
            }
            return fact(facts, (op == LIKES ? LIKES_FACTS : KNOWS_FACTS) + x);
        }

        private static int ofTwo(int op, int x, int y) {
            switch (op) {
                case ADD: return bounded((long) x + y);
                case SUBTRACT: return bounded((long) x - y);
                case MULTIPLY: return bounded((long) x * y);
                case DIVIDE: return y == 0 ? 0 : Math.floorDiv(x, y);
                case LESSER: return Math.min(x, y);
                case GREATER: return Math.max(x, y);
                case BELOW: return x < y ? 1 : 0;
                case ABOVE: return x > y ? 1 : 0;
                case SAME: return x == y ? 1 : 0;
                case AND: return x & y;
                default: return x | y;
            }
        }

        private static int bounded(long x) {
            if (x > VALUE_MOST) {
                return VALUE_MOST;
            }
            return x < -VALUE_MOST ? -VALUE_MOST : (int) x;
        }
    }

    /** TEST and SUM, of churches and of questions; how many are open is handed on downwards. */
    private static final class Grammar {
        final Text text;
        private Code code;
        private String parts = CHURCH_PARTS;
        private int allowed = 0;
        private boolean asks = false;

        Grammar(Text text, Code code) {
            this.text = text;
            this.code = code;
        }

        void ofChurch(Code into, int formula) {
            code = into;
            parts = CHURCH_PARTS;
            allowed = formula >= 0 && formula < PARTS_OF.length ? PARTS_OF[formula] : 0;
            asks = false;
        }

        void ofQuestion(Code into) {
            code = into;
            parts = QUESTION_PARTS;
            allowed = QUESTION_WORDS;
            asks = true;
        }

        // What calls itself, by way of others, is private: rule 8 of the language wants it so.
        private void test(int open) {
            both(open);
            for (int i = 0; i < TAPE && text.takeWord("or"); i++) {
                both(open);
                code.put(OR);
            }
        }

        private void both(int open) {
            oneFact(open);
            for (int i = 0; i < TAPE && text.takeWord("and"); i++) {
                oneFact(open);
                code.put(AND);
            }
        }

        private void oneFact(int open) {
            int here = text.begin();
            if (text.takeWord("not")) {
                if (mayOpen(open, here)) {
                    oneFact(open + 1);
                    code.put(NOT);
                }
            } else if (text.takeSign('[')) {
                if (mayOpen(open, here)) {
                    test(open + 1);
                    text.needSign(']');
                }
            } else if (text.takeWord("all")) {
                code.put(1);
            } else {
                sum(open);
                int op = comparison();
                if (text.sound()) {
                    sum(open);
                    code.put(op);
                }
            }
        }

        private boolean mayOpen(int open, int here) {
            if (open >= OPEN_MOST) {
                text.fail(4, here);
            }
            return text.sound();
        }

        private int comparison() {
            if (text.takeSign('<')) {
                return BELOW;
            }
            if (text.takeSign('>')) {
                return ABOVE;
            }
            text.needSign('=');
            return SAME;
        }

        private void sum(int open) {
            product(open);
            for (int i = 0; i < TAPE && text.sound(); i++) {
                int op = text.takeSign('+') ? ADD : text.takeSign('-') ? SUBTRACT : NONE;
                if (op == NONE) {
                    break;
                }
                product(open);
                code.put(op);
            }
        }

        private void product(int open) {
            oneOf(open);
            for (int i = 0; i < TAPE && text.sound(); i++) {
                int op = text.takeSign('*') ? MULTIPLY : text.takeSign('/') ? DIVIDE : NONE;
                if (op == NONE) {
                    break;
                }
                oneOf(open);
                code.put(op);
            }
        }

        private void oneOf(int open) {
            int here = text.begin();
            if (isDigit(text.byteAt(here))) {
                code.put(text.takeNumber(0, 9999));
            } else if (text.takeSign('(')) {
                if (mayOpen(open, here)) {
                    sum(open + 1);
                    text.needSign(')');
                }
            } else if (text.takeWord("min")) {
                ofTwoSums(open, LESSER);
            } else if (text.takeWord("max")) {
                ofTwoSums(open, GREATER);
            } else if (asks && text.takeWord("likes")) {
                ofAnother(open, here, LIKES);
            } else if (asks && text.takeWord("knows")) {
                ofAnother(open, here, KNOWS);
            } else {
                int word = text.wordIn(parts);
                if (word == NONE || ((allowed >> word) & 1) == 0) {
                    text.fail(1, here);
                } else {
                    text.passWord();
                    code.put(WORD + word);
                }
            }
        }

        private void ofTwoSums(int open, int op) {
            int here = text.begin();
            text.needSign('(');
            if (mayOpen(open, here)) {
                sum(open + 1);
                text.needSign(',');
            }
            if (text.sound()) {
                sum(open + 1);
                text.needSign(')');
                code.put(op);
            }
        }

        private void ofAnother(int open, int here, int op) {
            if (mayOpen(open, here)) {
                oneOf(open + 1);
                code.put(op);
            }
        }
    }

    /** Reads the STATEMENTS of a church. */
    private static final class ChurchReader {
        private final Text text;
        private final Grammar grammar;
        private final int[] name = new int[NAME_MOST];

        ChurchReader(Text text, Grammar grammar) {
            this.text = text;
            this.grammar = grammar;
        }

        int read(Church church) {
            church.clear();
            int told = 0;
            for (int i = 0; i <= TAPE && text.sound() && !text.ended(); i++) {
                if (told == STATEMENTS_MOST) {
                    text.fail(5, text.begin());
                } else {
                    statement(church);
                    text.needSign(';');
                    told++;
                }
            }
            church.complete();
            return told;
        }

        private void statement(Church church) {
            int here = text.begin();
            int kind = text.wordIn(STATEMENTS);
            switch (kind) {
                case 0:
                case 1:
                    someone(church, kind, here);
                    break;
                case 2:
                    kinship(church);
                    break;
                case 3:
                    bearing(church, church.likes);
                    break;
                case 4:
                    bearing(church, church.knows);
                    break;
                case 5:
                    text.passWord();
                    church.roundsTold = text.takeNumber(1, 12);
                    break;
                case 6:
                case 7:
                case 8:
                    formula(church, kind - 6, here);
                    break;
                case 9:
                    text.passWord();
                    church.slip = text.takeNumber(0, 100);
                    break;
                default:
                    text.fail(1, here);
            }
        }

        private void someone(Church church, int side, int here) {
            if (church.count[side] >= SIDE) {
                text.fail(5, here);
                return;
            }
            text.passWord();
            int slot = side * SIDE + church.count[side];
            int at = text.begin();
            text.takeName(name);
            if (text.sound() && church.named(name) != NONE) {
                text.fail(3, at);
            }
            for (int i = 0; i < NAME_MOST; i++) {
                church.names[slot * NAME_MOST + i] = name[i];
            }
            church.count[side]++;
            text.needWord("warm");
            church.warm[slot] = text.takeNumber(0, 9);
            text.needWord("work");
            church.work[slot] = text.takeNumber(0, 9);
            text.needWord("size");
            church.size[slot] = text.takeNumber(0, 9);
        }

        /** The slot of one who is asked by NAME, across from another (or NONE). */
        private int asked(Church church, int across) {
            int at = text.begin();
            text.takeName(name);
            int slot = text.sound() ? church.named(name) : NONE;
            if (slot == NONE || across != NONE && sideOf(slot) == sideOf(across)) {
                text.fail(3, at);
            }
            return text.sound() ? slot : NONE;
        }

        private void kinship(Church church) {
            text.passWord();
            int one = asked(church, NONE);
            int at = text.begin();
            int other = one == NONE ? NONE : asked(church, one);
            if (other == NONE) {
                return;
            }
            if (church.areKin(one, other)) {
                text.fail(3, at);
                return;
            }
            church.kin[cell(one, other)] = true;
            church.kin[cell(other, one)] = true;
            church.kinCount++;
        }

        private void bearing(Church church, int[] bearings) {
            text.passWord();
            int one = asked(church, NONE);
            int other = one == NONE ? NONE : asked(church, one);
            if (other != NONE) {
                bearings[cell(one, other)] = text.takeNumber(0, LIKING_MOST);
            }
        }

        private void formula(Church church, int which, int here) {
            if (church.code.holds(which)) {
                text.fail(5, here);
                return;
            }
            text.passWord();
            church.code.begin(which);
            grammar.ofChurch(church.code, which);
            if (which == LETS) {
                grammar.test(0);
            } else {
                grammar.sum(0);
            }
            church.code.finish(which);
        }
    }

    /** What a church's text tells, by slots. */
    private static final class Church {
        final int[] count = new int[2];
        final int[] names = new int[ALL * NAME_MOST];
        final int[] warm = new int[ALL];
        final int[] work = new int[ALL];
        final int[] size = new int[ALL];
        final boolean[] kin = new boolean[ALL * SIDE];
        int kinCount = 0;
        final int[] likes = new int[ALL * SIDE];
        final int[] knows = new int[ALL * SIDE];
        int roundsTold = 3;
        int slip = 0;
        final Code code = new Code();

        void clear() {
            count[0] = 0;
            count[1] = 0;
            for (int i = 0; i < kin.length; i++) {
                kin[i] = false;
            }
            kinCount = 0;
            Arrays.fill(likes, 5);
            Arrays.fill(knows, 0);
            roundsTold = 3;
            slip = 0;
            code.clear();
        }

        /** Formulas that are not told are those of the document. */
        void complete() {
            fallBack(FEELS, WORD + LIKING, WORD + KNOWN, ADD);
            fallBack(LETS, WORD + FEEL, 8, BELOW);
            fallBack(LEARNS, WORD + KNOWN, 1, ADD);
        }

        private void fallBack(int which, int first, int second, int op) {
            if (!code.holds(which)) {
                code.begin(which);
                code.put(first);
                code.put(second);
                code.put(op);
                code.finish(which);
            }
        }

        int people() {
            return count[0] + count[1];
        }

        int slot(int number) {
            if (number < 0 || number >= people()) {
                return NONE;
            }
            return number < count[0] ? number : SIDE + number - count[0];
        }

        /** NONE of NONE. */
        int number(int slot) {
            return slot < SIDE ? slot : count[0] + slot - SIDE;
        }

        /** The slot of a number, if that one is on the side across from a slot. */
        int across(int slot, int number) {
            int other = slot(number);
            return slot == NONE || other == NONE || sideOf(slot) == sideOf(other) ? NONE : other;
        }

        boolean isThere(int slot) {
            return slot < SIDE ? slot < count[0] : slot - SIDE < count[1];
        }

        boolean areKin(int one, int other) {
            return kin[cell(one, other)];
        }

        int named(int[] name) {
            for (int slot = 0; slot < ALL; slot++) {
                boolean same = isThere(slot);
                for (int i = 0; i < NAME_MOST && same; i++) {
                    same = names[slot * NAME_MOST + i] == name[i];
                }
                if (same) {
                    return slot;
                }
            }
            return NONE;
        }
    }

    /** All that ROUNDS and ACTS change. A hand's size is here so that it can be tried otherwise. */
    private static final class State {
        int spring = 0;
        int round = 0;
        final int[] order = new int[ALL];
        final int[] wed = new int[ALL];
        final int[] waited = new int[ALL];
        final int[] size = new int[ALL];
        final int[] likes = new int[ALL * SIDE];
        final int[] knows = new int[ALL * SIDE];

        void begin(Church church) {
            spring = 0;
            round = 0;
            for (int slot = 0; slot < ALL; slot++) {
                order[slot] = slot;
                wed[slot] = NONE;
                waited[slot] = 0;
                size[slot] = church.size[slot];
            }
            System.arraycopy(church.likes, 0, likes, 0, likes.length);
            System.arraycopy(church.knows, 0, knows, 0, knows.length);
        }

        void take(State other) {
            spring = other.spring;
            round = other.round;
            System.arraycopy(other.order, 0, order, 0, ALL);
            System.arraycopy(other.wed, 0, wed, 0, ALL);
            System.arraycopy(other.waited, 0, waited, 0, ALL);
            System.arraycopy(other.size, 0, size, 0, ALL);
            System.arraycopy(other.likes, 0, likes, 0, likes.length);
            System.arraycopy(other.knows, 0, knows, 0, knows.length);
        }

        int wedPairs() {
            int pairs = 0;
            for (int left = 0; left < SIDE; left++) {
                if (wed[left] != NONE) {
                    pairs++;
                }
            }
            return pairs;
        }

        int place(int slot, int count) {
            int side = sideOf(slot);
            for (int place = 0; place < count && place < SIDE; place++) {
                if (order[side * SIDE + place] == slot) {
                    return place;
                }
            }
            return NONE;
        }

        void exchange(int side, int a, int b) {
            int first = order[side * SIDE + a];
            order[side * SIDE + a] = order[side * SIDE + b];
            order[side * SIDE + b] = first;
        }

        private static int imageLength(Church church) {
            return 4 + 3 * church.people() + 4 * church.count[0] * church.count[1];
        }

        private static int checkByte(int[] bytes, int length) {
            int check = 163;
            for (int i = 0; i < length && i < bytes.length; i++) {
                check = (3 * check + bytes[i]) % 251;
            }
            return check;
        }

        int write(Church church, int[] out) {
            int length = imageLength(church);
            if (length > out.length) {
                return 0;
            }
            out[0] = spring / 256;
            out[1] = spring % 256;
            out[2] = round;
            int at = 3;
            for (int number = 0; number < church.people(); number++) {
                int slot = church.slot(number);
                int first = slot < SIDE ? number : number - church.count[0];
                out[at] = church.number(order[sideOf(slot) * SIDE + first]);
                at++;
            }
            for (int number = 0; number < church.people(); number++) {
                at = writeOne(church, church.slot(number), out, at);
            }
            out[at] = checkByte(out, at);
            return length;
        }

        private int writeOne(Church church, int slot, int[] out, int from) {
            out[from] = wed[slot] == NONE ? 255 : church.number(wed[slot]);
            out[from + 1] = waited[slot];
            int at = from + 2;
            int others = church.count[1 - sideOf(slot)];
            for (int k = 0; k < others; k++) {
                out[at] = likes[slot * SIDE + k];
                out[at + 1] = knows[slot * SIDE + k];
                at += 2;
            }
            return at;
        }

        /** Takes an image's bytes; false, and of no use then, if they are none. */
        boolean read(Church church, int[] bytes, int length) {
            if (length != imageLength(church) || length > bytes.length
                || bytes[length - 1] != checkByte(bytes, length - 1)) {
                return false;
            }
            spring = bytes[0] * 256 + bytes[1];
            round = bytes[2];
            if (spring >= SPRINGS || round >= church.roundsTold || !readOrders(church, bytes)) {
                return false;
            }
            int at = 3 + church.people();
            for (int number = 0; number < church.people(); number++) {
                int slot = church.slot(number);
                if (!readOne(church, slot, bytes, at)) {
                    return false;
                }
                at += 2 + 2 * church.count[1 - sideOf(slot)];
            }
            return weddingsHold(church);
        }

        private boolean readOrders(Church church, int[] bytes) {
            int found = 0;
            for (int number = 0; number < church.people(); number++) {
                int slot = church.slot(number);
                int told = church.slot(bytes[3 + number]);
                if (told == NONE || sideOf(told) != sideOf(slot) || ((found >> told) & 1) == 1) {
                    return false;
                }
                found |= 1 << told;
                order[slot] = told;
            }
            return true;
        }

        private boolean readOne(Church church, int slot, int[] bytes, int from) {
            int to = bytes[from];
            wed[slot] = to == 255 ? NONE : church.across(slot, to);
            waited[slot] = bytes[from + 1];
            if (to != 255 && wed[slot] == NONE || waited[slot] > WAITED_MOST) {
                return false;
            }
            int others = church.count[1 - sideOf(slot)];
            for (int k = 0; k < others; k++) {
                int liking = bytes[from + 2 + 2 * k];
                int knowing = bytes[from + 3 + 2 * k];
                if (liking > LIKING_MOST || knowing > LIKING_MOST) {
                    return false;
                }
                likes[slot * SIDE + k] = liking;
                knows[slot * SIDE + k] = knowing;
            }
            return true;
        }

        private boolean weddingsHold(Church church) {
            for (int slot = 0; slot < ALL; slot++) {
                int to = wed[slot];
                if (church.isThere(slot) && to != NONE && (wed[to] != slot || church.areKin(slot, to))) {
                    return false;
                }
            }
            return true;
        }
    }

    /** One ROUND, and what is felt in it. */
    private static final class Walk {
        Church church;
        final int[] holds = new int[ALL];
        final int[] fresh = new int[SIDE];
        private final int[] facts = new int[LIKES_FACTS];
        private final int[] free = new int[ALL];

        Walk(Church church) {
            this.church = church;
        }

        void giveHands(State s) {
            Arrays.fill(holds, NONE);
            int lefts = gatherFree(s, 0);
            int rights = gatherFree(s, 1);
            int places = Math.max(lefts, rights);
            for (int k = 0; k < lefts && places > 0; k++) {
                int other = (k + s.round) % places;
                if (other < rights) {
                    int left = free[k];
                    int right = free[SIDE + other];
                    holds[left] = right;
                    holds[right] = left;
                }
            }
        }

        private int gatherFree(State s, int side) {
            int found = 0;
            for (int place = 0; place < church.count[side]; place++) {
                int slot = s.order[side * SIDE + place];
                if (s.wed[slot] == NONE) {
                    free[side * SIDE + found] = slot;
                    found++;
                }
            }
            return found;
        }

        /** How the other's hand feels to one; letsGo and learnt speak of the hand felt last. */
        int feel(State s, int one, int other) {
            facts[0] = s.knows[cell(one, other)];
            facts[1] = s.spring;
            facts[2] = s.likes[cell(one, other)];
            facts[3] = church.warm[other];
            facts[4] = church.work[other];
            facts[5] = s.size[other];
            facts[7] = s.round;
            facts[8] = s.waited[one];
            facts[FEEL] = within(church.code.value(FEELS, facts), FEEL_MOST);
            return facts[FEEL];
        }

        boolean letsGo() {
            return church.code.value(LETS, facts) != 0;
        }

        private int learnt() {
            return within(church.code.value(LEARNS, facts), LIKING_MOST);
        }

        /** A ROUND in which one may tremble: how many pairs are wed in it; fresh has their lefts. */
        int go(State s, int trembling) {
            giveHands(s);
            int wed = 0;
            for (int left = 0; left < SIDE; left++) {
                int right = holds[left];
                if (right != NONE) {
                    // Nobody else feels what one learns of a hand in this ROUND: it is noted at once.
                    feel(s, left, right);
                    boolean one = left != trembling && !letsGo();
                    s.knows[cell(left, right)] = learnt();
                    feel(s, right, left);
                    boolean other = right != trembling && !letsGo();
                    s.knows[cell(right, left)] = learnt();
                    if (one && other && !church.areKin(left, right)) {
                        s.wed[left] = right;
                        s.wed[right] = left;
                        fresh[wed] = left;
                        wed++;
                    }
                }
            }
            passTime(s);
            return wed;
        }

        private void passTime(State s) {
            s.round++;
            if (s.round < church.roundsTold) {
                return;
            }
            s.round = 0;
            s.spring++;
            for (int slot = 0; slot < ALL; slot++) {
                if (church.isThere(slot) && s.wed[slot] == NONE) {
                    s.waited[slot] = Math.min(s.waited[slot] + 1, WAITED_MOST);
                }
            }
        }
    }

    /** What would be, tried on a scratch state. */
    private static final class Ahead {
        final State scratch = new State();
        final int[] found = new int[4];
        private final Walk walk;
        private final int[] wedBits = new int[SIZES * (SEEN_ROUNDS + 1)];

        Ahead(Walk walk) {
            this.walk = walk;
        }

        private int roundsLeft(State s) {
            int told = walk.church.roundsTold;
            return SPRINGS * told - 1 - s.spring * told - s.round;
        }

        boolean canCome(State s, int n, int least, int most) {
            return n >= least && n <= most && n <= roundsLeft(s);
        }

        private void goOn(int n) {
            for (int i = 0; i < n; i++) {
                walk.go(scratch, NONE);
            }
        }

        State behind(State s, int n) {
            scratch.take(s);
            goOn(n);
            return scratch;
        }

        int firstWed(State s, int slot) {
            int last = Math.min(60, roundsLeft(s));
            scratch.take(s);
            for (int n = 0; n <= last; n++) {
                if (scratch.wed[slot] != NONE) {
                    return n;
                }
                if (n < last) {
                    walk.go(scratch, NONE);
                }
            }
            return NONE;
        }

        int lessons(State s, int slot, int n) {
            int others = walk.church.count[1 - sideOf(slot)];
            for (int many = 0; many <= others; many++) {
                for (int bits = 0; bits < 1 << others; bits++) {
                    if (Integer.bitCount(bits) == many && wedIfTaught(s, slot, bits, n)) {
                        return bits;
                    }
                }
            }
            return NONE;
        }

        private boolean wedIfTaught(State s, int slot, int bits, int n) {
            scratch.take(s);
            for (int k = 0; k < SIDE; k++) {
                if (((bits >> k) & 1) == 1) {
                    scratch.knows[slot * SIDE + k] = LIKING_MOST;
                }
            }
            // Who is wed stays so in ROUNDS, so the first wedding settles it.
            for (int i = 0; i < n && scratch.wed[slot] == NONE; i++) {
                walk.go(scratch, NONE);
            }
            return scratch.wed[slot] != NONE;
        }

        void findChange(State s, int n) {
            note(NONE, NONE, NONE);
            scratch.take(s);
            goOn(n);
            found[3] = scratch.wedPairs();
            for (int side = 0; side < 2; side++) {
                int count = walk.church.count[side];
                for (int a = 0; a < count; a++) {
                    for (int b = a + 1; b < count; b++) {
                        scratch.take(s);
                        scratch.exchange(side, a, b);
                        goOn(n);
                        if (scratch.wedPairs() > found[3]) {
                            note(side, a, b);
                            found[3] = scratch.wedPairs();
                        }
                    }
                }
            }
        }

        private void note(int first, int second, int third) {
            found[0] = first;
            found[1] = second;
            found[2] = third;
        }

        int oddsOf(State s, int slot) {
            Church church = walk.church;
            int people = church.people();
            int trembling = 0;
            for (int number = 0; number < people; number++) {
                trembling += wedNext(s, slot, church.slot(number));
            }
            return church.slip * trembling + (100 - church.slip) * people * wedNext(s, slot, NONE);
        }

        private int wedNext(State s, int slot, int trembling) {
            scratch.take(s);
            walk.go(scratch, trembling);
            return scratch.wed[slot] != NONE ? 1 : 0;
        }

        int sizesLeft(State s, int slot, int[] seen, int rows) {
            int last = 0;
            for (int row = 0; row < rows; row++) {
                last = Math.max(last, seen[3 * row]);
            }
            if (last > roundsLeft(s)) {
                return 0;
            }
            int bits = 0;
            for (int size = 0; size < SIZES; size++) {
                scratch.take(s);
                scratch.size[slot] = size;
                if (isAsSeen(seen, rows, last)) {
                    bits |= 1 << size;
                }
            }
            return bits;
        }

        private boolean isAsSeen(int[] seen, int rows, int last) {
            for (int n = 0; n <= last; n++) {
                for (int row = 0; row < rows; row++) {
                    boolean isWed = scratch.wed[seen[3 * row + 1]] != NONE;
                    if (seen[3 * row] == n && isWed != (seen[3 * row + 2] == 1)) {
                        return false;
                    }
                }
                if (n < last) {
                    walk.go(scratch, NONE);
                }
            }
            return true;
        }

        boolean findTelling(State s, int slot, int sizes) {
            int last = Math.min(SEEN_ROUNDS, roundsLeft(s));
            if (sizes == 0 || last < 1) {
                return false;
            }
            for (int size = 0; size < SIZES; size++) {
                if (((sizes >> size) & 1) == 1) {
                    lookAhead(s, slot, size, last);
                }
            }
            note(NONE, NONE, SIZES + 1);
            for (int n = 1; n <= last; n++) {
                for (int number = 0; number < walk.church.people(); number++) {
                    int most = mostLeft(sizes, n, walk.church.slot(number));
                    if (most < found[2]) {
                        note(n, number, most);
                    }
                }
            }
            return true;
        }

        private void lookAhead(State s, int slot, int size, int last) {
            scratch.take(s);
            scratch.size[slot] = size;
            for (int n = 1; n <= last; n++) {
                walk.go(scratch, NONE);
                int bits = 0;
                for (int one = 0; one < ALL; one++) {
                    if (scratch.wed[one] != NONE) {
                        bits |= 1 << one;
                    }
                }
                wedBits[size * (SEEN_ROUNDS + 1) + n] = bits;
            }
        }

        private int mostLeft(int sizes, int n, int slot) {
            int wed = 0;
            for (int size = 0; size < SIZES; size++) {
                if (((sizes >> size) & 1) == 1) {
                    wed += (wedBits[size * (SEEN_ROUNDS + 1) + n] >> slot) & 1;
                }
            }
            return Math.max(wed, Integer.bitCount(sizes) - wed);
        }
    }

    /** Pairs by likings alone. */
    private static final class Likings {
        final int[] mate = new int[ALL];
        final int[] rathers = new int[2 * SIDE * SIDE];
        private final int[] best = new int[(SIDE + 1) << SIDE];
        private final int[] askedBits = new int[SIDE];

        /** best[left, taken]: the most for this left and those behind, some rights being taken. */
        int findMatch(Church church, State s) {
            Arrays.fill(mate, NONE);
            int sets = 1 << church.count[1];
            int lefts = church.count[0];
            for (int taken = 0; taken < sets; taken++) {
                best[(lefts << SIDE) + taken] = 0;
            }
            for (int left = lefts - 1; left >= 0; left--) {
                for (int taken = 0; taken < sets; taken++) {
                    int most = best[((left + 1) << SIDE) + taken];
                    for (int k = 0; k < church.count[1]; k++) {
                        most = Math.max(most, withRight(church, s, left, k, taken));
                    }
                    best[(left << SIDE) + taken] = most;
                }
            }
            chooseFirst(church, s);
            return best[0];
        }

        /** The most, if this left has right k; below 0 if he can't. */
        private int withRight(Church church, State s, int left, int k, int taken) {
            int right = SIDE + k;
            if (((taken >> k) & 1) == 1 || church.areKin(left, right)) {
                return NONE;
            }
            return s.likes[cell(left, right)] + s.likes[cell(right, left)]
                + best[((left + 1) << SIDE) + (taken | 1 << k)];
        }

        private void chooseFirst(Church church, State s) {
            int taken = 0;
            for (int left = 0; left < church.count[0]; left++) {
                int most = best[(left << SIDE) + taken];
                boolean chosen = best[((left + 1) << SIDE) + taken] == most;
                for (int k = 0; k < church.count[1] && !chosen; k++) {
                    if (withRight(church, s, left, k, taken) == most) {
                        mate[left] = SIDE + k;
                        taken |= 1 << k;
                        chosen = true;
                    }
                }
            }
        }

        void findSteady(Church church, State s) {
            Arrays.fill(mate, NONE);
            Arrays.fill(askedBits, 0);
            for (int asks = 0; asks <= SIDE * SIDE; asks++) {
                int left = NONE;
                int right = NONE;
                for (int one = 0; one < church.count[0] && right == NONE; one++) {
                    left = one;
                    right = mate[one] == NONE ? nextToAsk(church, s, one) : NONE;
                }
                if (right == NONE) {
                    break;
                }
                askedBits[left] |= 1 << (right - SIDE);
                int had = mate[right];
                if (had == NONE || s.likes[cell(right, left)] > s.likes[cell(right, had)]) {
                    mate[left] = right;
                    mate[right] = left;
                    if (had != NONE) {
                        mate[had] = NONE;
                    }
                }
            }
        }

        private int nextToAsk(Church church, State s, int left) {
            int chosen = NONE;
            for (int right = SIDE; right < SIDE + church.count[1]; right++) {
                boolean open = ((askedBits[left] >> (right - SIDE)) & 1) == 0 && !church.areKin(left, right);
                if (open && (chosen == NONE || s.likes[cell(left, right)] > s.likes[cell(left, chosen)])) {
                    chosen = right;
                }
            }
            return chosen;
        }

        int findRather(Church church, State s) {
            int count = 0;
            for (int left = 0; left < church.count[0]; left++) {
                for (int right = SIDE; right < SIDE + church.count[1]; right++) {
                    if (!church.areKin(left, right) && prefers(s, left, right) && prefers(s, right, left)) {
                        rathers[2 * count] = left;
                        rathers[2 * count + 1] = right;
                        count++;
                    }
                }
            }
            return count;
        }

        /** None likes the one he is wed to more than that one, so two who are wed are left out. */
        private static boolean prefers(State s, int one, int other) {
            int has = s.wed[one];
            return has == NONE || s.likes[cell(one, other)] > s.likes[cell(one, has)];
        }
    }

    /** ACTS that can be undone, and what is KEPT. */
    private static final class Past {
        // An act weds six pairs at most: so many are held that twenty can be undone and forty told.
        private static final int KEPT_HELD = KEPT_TOLD + ACTS_MOST * SIDE;
        int acts = 0;
        private int next = 0;
        private final State[] states = new State[ACTS_MOST];
        private final int[] keptThen = new int[ACTS_MOST];
        private final int[] rows = new int[KEPT_HELD * 4];
        private int keptAll = 0;

        Past() {
            for (int i = 0; i < ACTS_MOST; i++) {
                states[i] = new State();
            }
        }

        void forget() {
            acts = 0;
            keptAll = 0;
        }

        void remember(State now) {
            states[next].take(now);
            keptThen[next] = keptAll;
            next = (next + 1) % ACTS_MOST;
            acts = Math.min(acts + 1, ACTS_MOST);
        }

        boolean recall(State now) {
            if (acts == 0) {
                return false;
            }
            next = (next + ACTS_MOST - 1) % ACTS_MOST;
            now.take(states[next]);
            keptAll = keptThen[next];
            acts--;
            return true;
        }

        void keep(int spring, int round, int left, int right) {
            int row = keptAll % KEPT_HELD * 4;
            rows[row] = spring;
            rows[row + 1] = round;
            rows[row + 2] = left;
            rows[row + 3] = right;
            keptAll++;
        }

        int keptTold() {
            return Math.min(keptAll, KEPT_TOLD);
        }

        int keptCell(int k, int what) {
            return rows[(keptAll - keptTold() + k) % KEPT_HELD * 4 + what];
        }
    }

    /** A QUESTION of all people. */
    private static final class Question {
        private static final int FIRST = 0;
        private static final int LAST = 1;
        private static final int OFTEN = 2;
        private static final int TOTAL = 3;
        private static final int MOST = 4;
        private final Text text;
        private final Code code = new Code();
        final Grammar grammar;
        private final int[] facts = new int[FACTS];
        private int kind = NONE;

        Question(Text text) {
            this.text = text;
            grammar = new Grammar(text, code);
        }

        void read() {
            code.clear();
            grammar.ofQuestion(code);
            kind = text.wordIn(QUESTIONS);
            if (kind == NONE) {
                text.fail(1, text.begin());
                return;
            }
            text.passWord();
            code.begin(0);
            if (kind <= OFTEN) {
                grammar.test(0);
            } else {
                grammar.sum(0);
            }
            code.finish(0);
            if (!text.ended()) {
                text.fail(1, text.begin());
            }
        }

        long answer(Church church, State s) {
            long answer = kind <= LAST ? NONE : 0;
            for (int number = 0; number < church.people(); number++) {
                gatherFacts(church, s, number);
                answer = joined(answer, number, code.value(0, facts));
            }
            return answer;
        }

        private long joined(long answer, int number, int value) {
            switch (kind) {
                case FIRST: return answer == NONE && value != 0 ? number : answer;
                case LAST: return value != 0 ? number : answer;
                case OFTEN:
                case TOTAL: return answer + value;
                case MOST: return number == 0 ? value : Math.max(answer, value);
                default: return number == 0 ? value : Math.min(answer, value);
            }
        }

        private void gatherFacts(Church church, State s, int number) {
            int slot = church.slot(number);
            facts[0] = number;
            facts[1] = sideOf(slot);
            facts[2] = church.warm[slot];
            facts[3] = church.work[slot];
            facts[4] = church.size[slot];
            facts[5] = s.waited[slot];
            facts[6] = s.wed[slot] != NONE ? 1 : 0;
            facts[7] = s.spring;
            facts[8] = s.round;
            for (int other = 0; other < ALL; other++) {
                int across = church.across(slot, other);
                facts[LIKES_FACTS + other] = across == NONE ? 0 : s.likes[cell(slot, across)];
                facts[KNOWS_FACTS + other] = across == NONE ? 0 : s.knows[cell(slot, across)];
            }
        }
    }
}
