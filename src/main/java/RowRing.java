/**
 * A smithy that makes a ring to fit the quarrel: pairs, sayings and rules are told as texts, days go
 * by, and much can be asked of how it goes on. What each call does is told in the project's document.
 */
public final class RowRing {

    public static final int NONE = -1;

    private static final int MISSING = -2;
    private static final int REFUSED = -3;

    private static final int MOST_PAIRS = 5;
    private static final int MOST_SAYINGS = 6;
    private static final int MOST_RULES = 6;
    private static final int MOST_NOTES = 10;
    private static final int MOST_IMAGES = 4;
    private static final int MOST_ACTS = 20;
    private static final int MOST_TEMPER = 999;
    private static final int LAST_DAY_BY_HAND = 999;
    private static final int LAST_NOTED_DAY = 60;
    private static final int WIDEST_NOTED = 99;
    private static final int BYTES_FED = 20;
    private static final int DOOR_TEMPER = 3;

    private static final int CANNOT_STAND = 0;
    private static final int BAD_NUMBER = 1;
    private static final int TOO_DEEP = 2;
    private static final int TOO_MANY_PARTS = 3;
    private static final int BAD_CLAUSE = 4;

    private final Tape tape;
    private final World world;
    private final World[] images;
    private final Smithy spare;
    private final Rule[] rules;
    private final RuleReader ruleReader;
    private final History history;
    private final Mill mill;
    private final Foresight foresight;
    private final Handiwork handiwork;
    private int ruleCount;

    public RowRing() {
        tape = new Tape();
        world = new World();
        images = new World[MOST_IMAGES];
        for (int k = 0; k < MOST_IMAGES; k++) {
            images[k] = new World();
        }
        spare = new Smithy();
        rules = new Rule[MOST_RULES];
        for (int number = 0; number < MOST_RULES; number++) {
            rules[number] = new Rule();
        }
        ruleReader = new RuleReader(tape);
        history = new History();
        mill = new Mill(world.smithy, rules);
        foresight = new Foresight(world, mill);
        handiwork = new Handiwork(world);
        ruleCount = 0;
    }

    // ---- texts ----

    public int feed(int a, int b, int c, int d, int e) {
        if (tape.length + BYTES_FED > Tape.MOST) {
            return NONE;
        }
        tape.append(a);
        tape.append(b);
        tape.append(c);
        tape.append(d);
        tape.append(e);
        return tape.length;
    }

    public int end(int n) {
        if (n < 0 || n > tape.length) {
            return NONE;
        }
        tape.length = n;
        return n;
    }

    public int smith() {
        spare.readFrom(tape);
        tape.clear();
        if (tape.fault != 0) {
            return -2 - tape.fault;
        }
        world.smithy.copy(spare);
        world.state.begin(world.smithy);
        world.notes = 0;
        history.forget();
        return world.smithy.pairs;
    }

    public int rule() {
        if (ruleCount < 0 || ruleCount >= rules.length) {
            return NONE;
        }
        ruleReader.readInto(rules[ruleCount]);
        tape.clear();
        if (tape.fault != 0) {
            return -2 - tape.fault;
        }
        ruleCount++;
        return ruleCount - 1;
    }

    public int force(int rule) {
        if (rule < NONE || rule >= ruleCount) {
            return MISSING;
        }
        int before = world.force;
        world.force = rule;
        return before;
    }

    // ---- how it is ----

    public int pair(int pair, int what) {
        if (!world.smithy.hasPair(pair)) {
            return NONE;
        }
        switch (what) {
            case 0:
                return world.state.temper[pair];
            case 1:
                return world.smithy.breaks[pair];
            case 2:
                return world.state.wide[pair];
            case 3:
                return world.state.size[pair];
            case 4:
                return world.smithy.near[pair];
            default:
                return NONE;
        }
    }

    public int saying(int pair, int saying, int what) {
        if (!world.smithy.hasBoth(pair, saying) || !isEither(what)) {
            return NONE;
        }
        if (what == 0) {
            return world.smithy.weight(pair, saying);
        }
        return world.state.said[pair * MOST_SAYINGS + saying];
    }

    public int count(int what) {
        switch (what) {
            case 0:
                return world.smithy.widest;
            case 1:
                return world.smithy.wear;
            case 2:
                return world.smithy.pairs;
            case 3:
                return world.smithy.sayings;
            case 4:
                return ruleCount;
            case 5:
                return world.force;
            case 6:
                return world.state.day;
            case 7:
                return world.state.banded();
            case 8:
                return world.state.rows;
            case 9:
                return world.state.allWide();
            case 10:
                return world.notes;
            case 11:
                return history.size;
            case 12:
                return world.x;
            case 13:
                return tape.length;
            default:
                return NONE;
        }
    }

    // ---- acts ----

    public int day() {
        if (!world.smithy.told || world.state.day >= LAST_DAY_BY_HAND) {
            return NONE;
        }
        history.keep(world.state);
        mill.under(world.force);
        return mill.passDay(world.state);
    }

    public int say(int pair, int saying) {
        if (!world.isFree(pair) || !world.smithy.hasSaying(saying)) {
            return NONE;
        }
        history.keep(world.state);
        mill.under(world.force);
        return mill.utter(world.state, pair, saying);
    }

    public int soothe(int pair, int much) {
        if (!world.smithy.hasPair(pair) || much < 1 || much > 20 || world.state.temper[pair] < much) {
            return NONE;
        }
        history.keep(world.state);
        world.state.temper[pair] -= much;
        return world.state.temper[pair];
    }

    public int door() {
        if (world.smithy.everyPair() == world.state.banded()) {
            return NONE;
        }
        history.keep(world.state);
        return mill.openDoor(world.state);
    }

    public int undo() {
        if (history.size == 0) {
            return NONE;
        }
        history.takeBack(world.state);
        return history.size;
    }

    // ---- how it goes on ----

    public int ahead(int pair, int n, int what) {
        if (!world.smithy.told || n < 0 || n > 100 || what < 0 || what > 2) {
            return NONE;
        }
        if (what == 2) {
            return foresight.later(n).rows;
        }
        if (!world.smithy.hasPair(pair)) {
            return NONE;
        }
        State then = foresight.later(n);
        return what == 0 ? then.temper[pair] : then.wide[pair];
    }

    public int quarrel(int pair, int what) {
        if (!world.isFree(pair) || !isEither(what)) {
            return NONE;
        }
        return foresight.nextRow(pair, what);
    }

    public int bring(int pair, int size, int what) {
        if (!world.isFree(pair) || size < 1 || size > Handiwork.LARGEST_BROUGHT || !isEither(what)) {
            return NONE;
        }
        return handiwork.bringing(pair, size, what);
    }

    public int smooth(int pair) {
        if (!world.smithy.hasPair(pair) || world.isFree(pair)) {
            return NONE;
        }
        return handiwork.smoothDay(pair);
    }

    public int strike(int n, int what) {
        if (!world.smithy.told || n < 1 || n > 30 || !isEither(what)) {
            return NONE;
        }
        int set = foresight.leastStruck(n);
        return what == 0 ? Integer.bitCount(set) : set;
    }

    public int home(int n, int what) {
        if (!world.smithy.told || n < 1 || n > 30 || !isEither(what)) {
            return MISSING;
        }
        return foresight.bestHome(n, what);
    }

    public int benches(int what) {
        if (!world.smithy.told || what < NONE || what >= MOST_PAIRS) {
            return REFUSED;
        }
        return handiwork.benching(what);
    }

    public int gold(int much, int pair) {
        if (much < 0 || much > 9999 || !world.smithy.hasPair(pair)) {
            return NONE;
        }
        return handiwork.goldPart(much, pair);
    }

    public int heard(int pair, int saying, int what) {
        if (!world.isFree(pair) || !world.smithy.hasSaying(saying) || !isEither(what)) {
            return NONE;
        }
        return foresight.hearing(pair, saying, what);
    }

    public int game(int pair, int n, int what) {
        if (!world.isFree(pair) || n < 1 || n > Handiwork.MOST_TURNS || !isEither(what)) {
            return NONE;
        }
        return handiwork.gaming(pair, n, what);
    }

    public int spark(int pair) {
        if (!world.isFree(pair)) {
            return NONE;
        }
        return handiwork.sparking(pair);
    }

    public int calm(int n, int what) {
        if (!world.smithy.told || n < 1 || n > 30 || !isEither(what)) {
            return MISSING;
        }
        return foresight.bestCalm(n, what);
    }

    public int largest(int n, int what) {
        if (!world.smithy.told || n < 1 || n > 60 || what < 0 || what > 2) {
            return NONE;
        }
        return foresight.largestRow(n, what);
    }

    // ---- notes and draws ----

    public int note(int n, int pair, int wide) {
        if (n == NONE) {
            world.notes = 0;
            return 0;
        }
        if (n < 0 || n > LAST_NOTED_DAY || !world.smithy.hasPair(pair) || wide < 0 || wide > WIDEST_NOTED) {
            return MISSING;
        }
        if (world.notes >= MOST_NOTES) {
            return MISSING;
        }
        world.addNote(n, pair, wide);
        return world.notes;
    }

    public int ruled(int what) {
        if (!world.smithy.told || !isEither(what)) {
            return REFUSED;
        }
        foresight.findFits(ruleCount, Foresight.NO_DAY);
        return what == 0 ? foresight.fits : foresight.firstFit;
    }

    public int look(int n, int what) {
        if (!world.smithy.told || n < 0 || n > LAST_NOTED_DAY || !isEither(what)) {
            return NONE;
        }
        foresight.findFits(ruleCount, n);
        return foresight.parting(what);
    }

    public int seed(int x) {
        if (x < 0) {
            return NONE;
        }
        int before = world.x;
        world.x = x;
        return before;
    }

    public int doors(int m, int n, int p, int what) {
        if (!world.smithy.told || m < 1 || m > 10 || n < 1 || n > 60) {
            return NONE;
        }
        if (p < 0 || p > 100 || !isEither(what)) {
            return NONE;
        }
        return foresight.drawnDoors(m, n, p, what);
    }

    // ---- images ----

    public int image(int k) {
        if (k < 0 || k >= MOST_IMAGES) {
            return NONE;
        }
        images[k].copy(world);
        images[k].made = true;
        return world.state.day;
    }

    public int back(int k) {
        if (k < 0 || k >= MOST_IMAGES || !images[k].made) {
            return NONE;
        }
        world.copy(images[k]);
        history.forget();
        return world.state.day;
    }

    private static boolean isEither(int what) {
        return what == 0 || what == 1;
    }

    /** The bytes fed so far; as a text it is read from the left, and keeps the first fault met. */
    private static final class Tape {
        static final int MOST = 400;
        static final int END = -1;
        static final int MOST_DIGITS = 5;

        private final byte[] bytes = new byte[MOST];
        private int length;
        private int place;
        private int fault;

        Tape() {
        }

        void append(int number) {
            for (int shift = 24; shift >= 0; shift -= 8) {
                if (length < MOST) {
                    bytes[length] = (byte) (number >> shift);
                    length++;
                }
            }
        }

        /** A text that was read is gone, with a fault too; the fault itself can still be told. */
        void clear() {
            length = 0;
        }

        void rewind() {
            place = 0;
            fault = 0;
        }

        /** Only the first fault stays: texts are read along, so it is the first along the text too. */
        void refuse(int at, int kind) {
            if (fault == 0) {
                fault = 1 + 8 * at + kind;
            }
        }

        /** The byte that comes next behind blanks, which are passed. */
        int next() {
            while (place < length && bytes[place] == ' ') {
                place++;
            }
            return place < length ? bytes[place] & 255 : END;
        }

        void pass(int many) {
            place = Math.min(place + many, length);
        }

        boolean followsAtOnce(char sign) {
            return place + 1 < length && bytes[place + 1] == sign;
        }

        static boolean isDigit(int sign) {
            return sign >= '0' && sign <= '9';
        }

        /** How long the word is that stands at the place, 0 if none does. */
        int wordSize() {
            int stop = place;
            while (stop < length && bytes[stop] >= 'a' && bytes[stop] <= 'z') {
                stop++;
            }
            return stop - place;
        }

        /** The index of the next word among those of a list parted by blanks, or NONE. */
        int wordAmong(String list) {
            next();
            int size = wordSize();
            int index = 0;
            int from = 0;
            for (int i = 0; i <= list.length(); i++) {
                if (i == list.length() || list.charAt(i) == ' ') {
                    if (i - from == size && isWord(list, from, size)) {
                        return index;
                    }
                    index++;
                    from = i + 1;
                }
            }
            return NONE;
        }

        private boolean isWord(String list, int from, int size) {
            for (int i = 0; i < size; i++) {
                if (bytes[place + i] != list.charAt(from + i)) {
                    return false;
                }
            }
            return size > 0;
        }

        int takeNumber(int least, int most) {
            int first = next();
            int start = place;
            if (!isDigit(first)) {
                refuse(start, CANNOT_STAND);
                return least;
            }
            int value = 0;
            while (place < length && isDigit(bytes[place])) {
                if (place - start < MOST_DIGITS) {
                    value = value * 10 + bytes[place] - '0';
                }
                place++;
            }
            if (place - start > MOST_DIGITS || value < least || value > most) {
                refuse(start, BAD_NUMBER);
            }
            return value;
        }

        /** Behind a clause: whether another is to come. */
        boolean goesOn() {
            int sign = next();
            if (fault != 0 || sign == END) {
                return false;
            }
            if (sign != ';') {
                refuse(place, CANNOT_STAND);
                return false;
            }
            pass(1);
            return true;
        }
    }

    /** What the text of a smithy told. */
    private static final class Smithy {
        private static final int MOST_CLAUSES = 40;
        private static final String WORDS = "smith pair saying minds near";
        private static final int SMITH = 0;
        private static final int PAIR = 1;
        private static final int SAYING = 2;
        private static final int MINDS = 3;

        private boolean told;
        private int widest;
        private int wear;
        private int pairs;
        private int sayings;
        private final int[] temper = new int[MOST_PAIRS];
        private final int[] breaks = new int[MOST_PAIRS];
        private final int[] near = new int[MOST_PAIRS];
        private final int[] hurt = new int[MOST_SAYINGS];
        private final int[] more = new int[MOST_PAIRS * MOST_SAYINGS];

        Smithy() {
        }

        boolean hasPair(int pair) {
            return pair >= 0 && pair < pairs;
        }

        boolean hasSaying(int saying) {
            return saying >= 0 && saying < sayings;
        }

        boolean hasBoth(int pair, int saying) {
            return hasPair(pair) && hasSaying(saying);
        }

        int everyPair() {
            return (1 << pairs) - 1;
        }

        int weight(int pair, int saying) {
            return hurt[saying] + more[pair * MOST_SAYINGS + saying];
        }

        void copy(Smithy other) {
            told = other.told;
            widest = other.widest;
            wear = other.wear;
            pairs = other.pairs;
            sayings = other.sayings;
            System.arraycopy(other.temper, 0, temper, 0, MOST_PAIRS);
            System.arraycopy(other.breaks, 0, breaks, 0, MOST_PAIRS);
            System.arraycopy(other.near, 0, near, 0, MOST_PAIRS);
            System.arraycopy(other.hurt, 0, hurt, 0, MOST_SAYINGS);
            System.arraycopy(other.more, 0, more, 0, MOST_PAIRS * MOST_SAYINGS);
        }

        void readFrom(Tape tape) {
            clear();
            tape.rewind();
            boolean goesOn = true;
            // One clause more than may be, so that it is met and refused.
            for (int clause = 0; goesOn && clause <= MOST_CLAUSES; clause++) {
                readClause(tape, clause);
                goesOn = tape.goesOn();
            }
            told = tape.fault == 0;
        }

        private void clear() {
            told = false;
            widest = 0;
            wear = 0;
            pairs = 0;
            sayings = 0;
            for (int pair = 0; pair < MOST_PAIRS; pair++) {
                near[pair] = 0;
            }
            for (int i = 0; i < MOST_PAIRS * MOST_SAYINGS; i++) {
                more[i] = 0;
            }
        }

        private void readClause(Tape tape, int clause) {
            int word = tape.wordAmong(WORDS);
            if (word == NONE) {
                tape.refuse(tape.place, CANNOT_STAND);
            } else if (clause >= MOST_CLAUSES || (word == SMITH) != (clause == 0) || isFull(word)) {
                tape.refuse(tape.place, BAD_CLAUSE);
            } else {
                tape.pass(tape.wordSize());
                readNumbers(tape, word);
            }
        }

        private boolean isFull(int word) {
            return word == PAIR && pairs >= MOST_PAIRS || word == SAYING && sayings >= MOST_SAYINGS;
        }

        private void readNumbers(Tape tape, int word) {
            if (word == SMITH) {
                widest = tape.takeNumber(1, 99);
                wear = tape.takeNumber(1, 9);
            } else if (word == PAIR) {
                temper[pairs] = tape.takeNumber(0, 99);
                breaks[pairs] = tape.takeNumber(1, 99);
                pairs++;
            } else if (word == SAYING) {
                hurt[sayings] = tape.takeNumber(0, 9);
                sayings++;
            } else if (word == MINDS) {
                readMinds(tape);
            } else {
                readNear(tape);
            }
        }

        private void readMinds(Tape tape) {
            int pair = tape.takeNumber(0, pairs - 1);
            int saying = tape.takeNumber(0, sayings - 1);
            int much = tape.takeNumber(0, 20);
            if (hasBoth(pair, saying)) {
                more[pair * MOST_SAYINGS + saying] = much;
            }
        }

        private void readNear(Tape tape) {
            int one = tape.takeNumber(0, pairs - 1);
            tape.next();
            int start = tape.place;
            int other = tape.takeNumber(0, pairs - 1);
            if (one == other) {
                tape.refuse(start, BAD_NUMBER);
            }
            if (hasPair(one) && hasPair(other)) {
                near[one] |= 1 << other;
                near[other] |= 1 << one;
            }
        }
    }

    /** All that goes on with the days. */
    private static final class State {
        private int day;
        private int rows;
        private final int[] temper = new int[MOST_PAIRS];
        private final int[] wide = new int[MOST_PAIRS];
        private final int[] size = new int[MOST_PAIRS];
        private final int[] said = new int[MOST_PAIRS * MOST_SAYINGS];

        State() {
        }

        void copy(State other) {
            day = other.day;
            rows = other.rows;
            System.arraycopy(other.temper, 0, temper, 0, MOST_PAIRS);
            System.arraycopy(other.wide, 0, wide, 0, MOST_PAIRS);
            System.arraycopy(other.size, 0, size, 0, MOST_PAIRS);
            System.arraycopy(other.said, 0, said, 0, MOST_PAIRS * MOST_SAYINGS);
        }

        void begin(Smithy smithy) {
            day = 0;
            rows = 0;
            for (int pair = 0; pair < MOST_PAIRS; pair++) {
                temper[pair] = pair < smithy.pairs ? smithy.temper[pair] : 0;
                wide[pair] = 0;
                size[pair] = 0;
            }
            for (int i = 0; i < MOST_PAIRS * MOST_SAYINGS; i++) {
                said[i] = 0;
            }
        }

        /** The pairs that have a band, as bits. */
        int banded() {
            int bits = 0;
            for (int pair = 0; pair < MOST_PAIRS; pair++) {
                if (wide[pair] > 0) {
                    bits |= 1 << pair;
                }
            }
            return bits;
        }

        int allWide() {
            int sum = 0;
            for (int pair = 0; pair < MOST_PAIRS; pair++) {
                sum += wide[pair];
            }
            return sum;
        }

        void anger(int pair, int much) {
            temper[pair] = Math.min(MOST_TEMPER, temper[pair] + much);
        }
    }

    /** All that an image keeps. */
    private static final class World {
        private final Smithy smithy = new Smithy();
        private final State state = new State();
        private final int[] noteDay = new int[MOST_NOTES];
        private final int[] notePair = new int[MOST_NOTES];
        private final int[] noteWide = new int[MOST_NOTES];
        private int notes;
        private int force = NONE;
        private int x;
        private boolean made;

        World() {
        }

        void copy(World other) {
            smithy.copy(other.smithy);
            state.copy(other.state);
            System.arraycopy(other.noteDay, 0, noteDay, 0, MOST_NOTES);
            System.arraycopy(other.notePair, 0, notePair, 0, MOST_NOTES);
            System.arraycopy(other.noteWide, 0, noteWide, 0, MOST_NOTES);
            notes = other.notes;
            force = other.force;
            x = other.x;
        }

        /** Whether there is such a pair, and it has no band. */
        boolean isFree(int pair) {
            return smithy.hasPair(pair) && state.wide[pair] == 0;
        }

        void addNote(int n, int pair, int wide) {
            if (notes >= 0 && notes < MOST_NOTES) {
                noteDay[notes] = n;
                notePair[notes] = pair;
                noteWide[notes] = wide;
                notes++;
            }
        }
    }

    /** The states ahead of the last acts, in a round of places. */
    private static final class History {
        private final State[] states = new State[MOST_ACTS];
        private int first;
        private int size;

        History() {
            for (int i = 0; i < MOST_ACTS; i++) {
                states[i] = new State();
            }
        }

        void forget() {
            first = 0;
            size = 0;
        }

        void keep(State state) {
            states[(first + size) % MOST_ACTS].copy(state);
            if (size < MOST_ACTS) {
                size++;
            } else {
                first = (first + 1) % MOST_ACTS;
            }
        }

        void takeBack(State state) {
            if (size > 0) {
                size--;
                state.copy(states[(first + size) % MOST_ACTS]);
            }
        }
    }

    /** A rule as steps on a stack: those of a clause's sum, of its test, if it has one, and its end. */
    private static final class Rule {
        static final int MOST_CLAUSES = 12;
        static final int NUMBER = 0;
        static final int WORD = 1;
        static final int ADD = 2;
        static final int SUBTRACT = 3;
        static final int TIMES = 4;
        static final int DIVIDE = 5;
        static final int REST = 6;
        static final int LESS = 7;
        static final int LESS_OR_SAME = 8;
        static final int SAME = 9;
        static final int MORE_OR_SAME = 10;
        static final int MORE = 11;
        static final int NOT = 12;
        static final int AND = 13;
        static final int OR = 14;
        static final int CLAUSE_END = 15;
        private static final int KIND_BITS = 4;

        // Each step comes of a byte of the text of its own.
        private final int[] steps = new int[Tape.MOST];
        private int size;

        Rule() {
        }

        void clear() {
            size = 0;
        }

        void add(int kind, int operand) {
            if (size < steps.length) {
                steps[size] = operand << KIND_BITS | kind;
                size++;
            }
        }

        /** The sum of the first clause that has no test, or whose test holds; 0 without such a one. */
        long worth(long[] words, long[] stack) {
            int top = 0;
            for (int i = 0; i < size; i++) {
                int kind = steps[i] & (1 << KIND_BITS) - 1;
                int operand = steps[i] >> KIND_BITS;
                if (kind <= WORD) {
                    if (top < stack.length && (kind == NUMBER || operand < words.length)) {
                        stack[top] = kind == NUMBER ? operand : words[operand];
                        top++;
                    }
                } else if (kind == CLAUSE_END) {
                    if (top > 0 && (top == 1 || stack[top - 1] != 0)) {
                        return stack[0];
                    }
                    top = 0;
                } else if (kind == NOT) {
                    if (top > 0) {
                        stack[top - 1] = 1 - stack[top - 1];
                    }
                } else if (top > 1) {
                    top--;
                    stack[top - 1] = joined(kind, stack[top - 1], stack[top]);
                }
            }
            return 0;
        }

        private static long joined(int kind, long a, long b) {
            switch (kind) {
                case ADD:
                    return a + b;
                case SUBTRACT:
                    return a - b;
                case TIMES:
                    return a * b;
                case DIVIDE:
                    return b == 0 ? 0 : a / b;
                case REST:
                    return b == 0 ? 0 : a % b;
                case LESS:
                    return a < b ? 1 : 0;
                case LESS_OR_SAME:
                    return a <= b ? 1 : 0;
                case SAME:
                    return a == b ? 1 : 0;
                case MORE_OR_SAME:
                    return a >= b ? 1 : 0;
                case MORE:
                    return a > b ? 1 : 0;
                case AND:
                    return a & b;
                default:
                    return a | b;
            }
        }
    }

    /** Reads a rule from the tape; operators wait on a stack until what binds less comes. */
    private static final class RuleReader {
        private static final String VALUE_WORDS =
            "pair saying temper breaks hurt minds said near bands rows day";
        private static final int MOST_DEEP = 10;
        private static final int MOST_PARTS = 60;
        private static final int MOST_WAITING = 64;
        // How tightly each kind of step of a Rule binds.
        private static final int[] BINDS = {0, 0, 5, 5, 6, 6, 6, 4, 4, 4, 4, 4, 3, 2, 1, 0};
        // Waits where a bracket was opened; it binds nothing, so what waits below it is held back.
        private static final int OPEN = Rule.NUMBER;

        private static final int SAID = 0;
        private static final int LEFT = 1;
        private static final int RIGHT = 2;

        private static final int VALUE_DUE = 0;
        private static final int FACT_DUE = 1;
        private static final int BEHIND_VALUE = 2;
        private static final int BEHIND_FACT = 3;
        private static final int READ = 4;

        private final Tape tape;
        private final int[] waiting = new int[MOST_WAITING];
        private int held;
        private int deep;
        private int parts;
        private int sum;
        private int stage;

        RuleReader(Tape tape) {
            this.tape = tape;
        }

        void readInto(Rule rule) {
            rule.clear();
            tape.rewind();
            parts = 0;
            boolean goesOn = true;
            // One clause more than may be, so that it is met and refused.
            for (int clause = 0; goesOn && clause <= Rule.MOST_CLAUSES; clause++) {
                readClause(rule, clause);
                goesOn = tape.goesOn();
            }
        }

        private void readClause(Rule rule, int clause) {
            if (tape.wordAmong("say") == NONE) {
                tape.refuse(tape.place, CANNOT_STAND);
                return;
            }
            if (clause >= Rule.MOST_CLAUSES) {
                tape.refuse(tape.place, BAD_CLAUSE);
                return;
            }
            tape.pass(tape.wordSize());
            held = 0;
            deep = 0;
            sum = SAID;
            stage = VALUE_DUE;
            // Each step but the last passes a byte or more.
            for (int i = 0; i <= Tape.MOST && stage != READ && tape.fault == 0; i++) {
                int sign = tape.next();
                if (stage == VALUE_DUE) {
                    takeValue(rule, sign);
                } else if (stage == FACT_DUE) {
                    takeFactBegin(rule, sign);
                } else if (stage == BEHIND_VALUE) {
                    takeBehindValue(rule, sign);
                } else {
                    takeBehindFact(rule, sign);
                }
            }
            rule.add(Rule.CLAUSE_END, 0);
        }

        private void takeValue(Rule rule, int sign) {
            int start = tape.place;
            if (Tape.isDigit(sign)) {
                rule.add(Rule.NUMBER, tape.takeNumber(0, 99999));
            } else {
                int word = tape.wordAmong(VALUE_WORDS);
                if (word == NONE) {
                    tape.refuse(start, CANNOT_STAND);
                    return;
                }
                tape.pass(tape.wordSize());
                rule.add(Rule.WORD, word);
            }
            countPart(start);
            stage = BEHIND_VALUE;
        }

        private void countPart(int start) {
            parts++;
            if (parts > MOST_PARTS) {
                tape.refuse(start, TOO_MANY_PARTS);
            }
        }

        private void takeFactBegin(Rule rule, int sign) {
            if (sign == '[') {
                goDeeper(OPEN, 1);
            } else if (tape.wordAmong("not") != NONE) {
                goDeeper(Rule.NOT, tape.wordSize());
            } else {
                sum = LEFT;
                takeValue(rule, sign);
            }
        }

        private void goDeeper(int kind, int bytes) {
            if (deep >= MOST_DEEP) {
                tape.refuse(tape.place, TOO_DEEP);
                return;
            }
            deep++;
            tape.pass(bytes);
            hold(kind);
        }

        private void takeBehindValue(Rule rule, int sign) {
            int kind = operator(sign);
            if (kind != NONE) {
                tape.pass(1);
                release(rule, BINDS[kind]);
                hold(kind);
                stage = VALUE_DUE;
            } else if (sum == SAID) {
                takeBehindSaid(rule);
            } else if (sum == LEFT) {
                takeSign(rule, sign);
            } else {
                takeBehindFact(rule, sign);
            }
        }

        private static int operator(int sign) {
            switch (sign) {
                case '+':
                    return Rule.ADD;
                case '-':
                    return Rule.SUBTRACT;
                case '*':
                    return Rule.TIMES;
                case '/':
                    return Rule.DIVIDE;
                case '%':
                    return Rule.REST;
                default:
                    return NONE;
            }
        }

        private void takeBehindSaid(Rule rule) {
            release(rule, 1);
            if (tape.wordAmong("if") == NONE) {
                stage = READ;
                return;
            }
            tape.pass(tape.wordSize());
            stage = FACT_DUE;
        }

        private void takeSign(Rule rule, int sign) {
            int start = tape.place;
            int kind = comparison(sign);
            if (kind == NONE) {
                tape.refuse(start, CANNOT_STAND);
                return;
            }
            tape.pass(kind == Rule.LESS_OR_SAME || kind == Rule.MORE_OR_SAME ? 2 : 1);
            countPart(start);
            release(rule, BINDS[kind]);
            hold(kind);
            sum = RIGHT;
            stage = VALUE_DUE;
        }

        private int comparison(int sign) {
            boolean orSame = tape.followsAtOnce('=');
            switch (sign) {
                case '<':
                    return orSame ? Rule.LESS_OR_SAME : Rule.LESS;
                case '=':
                    return Rule.SAME;
                case '>':
                    return orSame ? Rule.MORE_OR_SAME : Rule.MORE;
                default:
                    return NONE;
            }
        }

        private void takeBehindFact(Rule rule, int sign) {
            int word = tape.wordAmong("or and");
            if (word != NONE) {
                int kind = word == 0 ? Rule.OR : Rule.AND;
                tape.pass(tape.wordSize());
                release(rule, BINDS[kind]);
                hold(kind);
                stage = FACT_DUE;
                return;
            }
            release(rule, 1);
            if (held == 0) {
                stage = READ;
            } else if (sign == ']') {
                // All that bound more is released, so what waits on top is the sign that opened.
                held--;
                deep--;
                tape.pass(1);
                stage = BEHIND_FACT;
            } else {
                tape.refuse(tape.place, CANNOT_STAND);
            }
        }

        private void hold(int kind) {
            if (held < MOST_WAITING) {
                waiting[held] = kind;
                held++;
            }
        }

        /** What waits and binds so tightly or more becomes steps, the last held first. */
        private void release(Rule rule, int binds) {
            while (held > 0 && BINDS[waiting[held - 1]] >= binds) {
                held--;
                if (waiting[held] == Rule.NOT) {
                    deep--;
                }
                rule.add(waiting[held], 0);
            }
        }
    }

    /** Lets days go by and sayings be said, in the world's state or in one on trial. */
    private static final class Mill {
        private static final int WORDS = 11;
        private static final int STACK = 64;

        private final Smithy smithy;
        private final Rule[] rules;
        private final long[] words = new long[WORDS];
        private final long[] stack = new long[STACK];
        private final int[] rowSize = new int[MOST_PAIRS];
        private Rule rule;
        private int struck;
        private int atHome;

        Mill(Smithy smithy, Rule[] rules) {
            this.smithy = smithy;
            this.rules = rules;
            rule = null;
            struck = 0;
            atHome = NONE;
        }

        /** Days go on by this rule (NONE: none); no saying is struck, nobody is at home. */
        void under(int number) {
            rule = number >= 0 && number < rules.length ? rules[number] : null;
            struck = 0;
            atHome = NONE;
        }

        /** The pairs that have a row on the day, as bits; how large stands in rowSize. */
        int passDay(State state) {
            int rowed = 0;
            for (int pair = 0; pair < smithy.pairs; pair++) {
                if (state.wide[pair] == 0 && pair != atHome) {
                    int saying = chosen(state, pair);
                    if (saying != NONE) {
                        rowed |= utter(state, pair, saying);
                    }
                }
            }
            boolean wears = state.day % 10 == 9;
            for (int pair = 0; pair < smithy.pairs; pair++) {
                if (wears && state.wide[pair] > 0) {
                    wearBand(state, pair);
                }
                if (state.temper[pair] > 0) {
                    state.temper[pair]--;
                }
            }
            state.day++;
            return rowed;
        }

        private void wearBand(State state, int pair) {
            state.wide[pair] = Math.max(0, state.wide[pair] - smithy.wear);
            if (state.wide[pair] == 0) {
                state.size[pair] = 0;
            }
        }

        private int chosen(State state, int pair) {
            if (rule != null) {
                tellPair(state, pair);
            }
            int best = NONE;
            long most = 0;
            for (int saying = 0; saying < smithy.sayings; saying++) {
                if ((struck >> saying & 1) == 0) {
                    long worth = smithy.weight(pair, saying);
                    if (rule != null) {
                        tellSaying(state, pair, saying);
                        worth = rule.worth(words, stack);
                    }
                    if (worth > most) {
                        most = worth;
                        best = saying;
                    }
                }
            }
            return best;
        }

        /** The words that are the same for all sayings, each at its place among the reader's words. */
        private void tellPair(State state, int pair) {
            int banded = state.banded();
            words[0] = pair;
            words[2] = state.temper[pair];
            words[3] = smithy.breaks[pair];
            words[7] = Integer.bitCount(smithy.near[pair] & ~banded);
            words[8] = Integer.bitCount(banded);
            words[9] = state.rows;
            words[10] = state.day;
        }

        private void tellSaying(State state, int pair, int saying) {
            int place = pair * MOST_SAYINGS + saying;
            words[1] = saying;
            words[4] = smithy.hurt[saying];
            words[5] = smithy.more[place];
            words[6] = state.said[place];
        }

        /** The pairs that have a row by it, as bits; how large stands in rowSize. */
        int utter(State state, int pair, int saying) {
            state.anger(pair, smithy.weight(pair, saying));
            state.said[pair * MOST_SAYINGS + saying]++;
            int hearers = smithy.near[pair] & ~state.banded();
            if (atHome != NONE) {
                hearers &= ~(1 << atHome);
            }
            for (int other = 0; other < smithy.pairs; other++) {
                if ((hearers >> other & 1) != 0) {
                    state.anger(other, smithy.hurt[saying] / 2);
                }
            }
            return breakOut(state, hearers | 1 << pair);
        }

        int openDoor(State state) {
            int free = smithy.everyPair() & ~state.banded();
            for (int pair = 0; pair < smithy.pairs; pair++) {
                if ((free >> pair & 1) != 0) {
                    state.anger(pair, DOOR_TEMPER);
                }
            }
            return breakOut(state, free);
        }

        private int breakOut(State state, int who) {
            int rowed = 0;
            for (int pair = 0; pair < smithy.pairs; pair++) {
                int temper = state.temper[pair];
                if ((who >> pair & 1) != 0 && temper >= smithy.breaks[pair]) {
                    rowed |= 1 << pair;
                    rowSize[pair] = temper;
                    state.rows++;
                    state.size[pair] = temper;
                    state.wide[pair] = Math.min(temper, smithy.widest);
                    state.temper[pair] = 0;
                }
            }
            return rowed;
        }
    }

    /** What is asked of days to come, or of days as they might have been: all on a trial state. */
    private static final class Foresight {
        private static final int QUARREL_DAYS = 200;
        static final int NO_DAY = -1;

        private final World world;
        private final Mill mill;
        private final State trial = new State();
        // Of each rule that fits the notes, and of none, the bands of all pairs behind a day.
        private final int[] fitWide = new int[(MOST_RULES + 1) * MOST_PAIRS];
        private int fits;
        private int firstFit;

        Foresight(World world, Mill mill) {
            this.world = world;
            this.mill = mill;
        }

        private void restart() {
            trial.copy(world.state);
            mill.under(world.force);
        }

        private int rowsIn(int days) {
            int before = trial.rows;
            for (int i = 0; i < days; i++) {
                mill.passDay(trial);
            }
            return trial.rows - before;
        }

        State later(int days) {
            restart();
            rowsIn(days);
            return trial;
        }

        int nextRow(int pair, int what) {
            restart();
            for (int i = 0; i < QUARREL_DAYS; i++) {
                int day = trial.day;
                int rowed = mill.passDay(trial);
                if ((rowed >> pair & 1) != 0) {
                    return what == 0 ? day : mill.rowSize[pair];
                }
            }
            return MISSING;
        }

        int leastStruck(int days) {
            int all = (1 << world.smithy.sayings) - 1;
            for (int many = 0; many < world.smithy.sayings; many++) {
                for (int set = 0; set <= all; set++) {
                    if (Integer.bitCount(set) == many && staysQuiet(set, days)) {
                        return set;
                    }
                }
            }
            return all;
        }

        private boolean staysQuiet(int set, int days) {
            restart();
            mill.struck = set;
            for (int i = 0; i < days; i++) {
                if (mill.passDay(trial) != 0) {
                    return false;
                }
            }
            return true;
        }

        int bestHome(int days, int what) {
            restart();
            int most = rowsIn(days);
            int best = NONE;
            for (int pair = 0; pair < world.smithy.pairs; pair++) {
                restart();
                mill.atHome = pair;
                int rows = rowsIn(days);
                if (rows > most) {
                    most = rows;
                    best = pair;
                }
            }
            return what == 0 ? best : most;
        }

        int bestCalm(int days, int what) {
            restart();
            int fewest = rowsIn(days);
            int best = NONE;
            for (int pair = 0; pair < world.smithy.pairs; pair++) {
                restart();
                trial.temper[pair] = 0;
                int rows = rowsIn(days);
                if (rows < fewest) {
                    fewest = rows;
                    best = pair;
                }
            }
            return what == 0 ? best : fewest;
        }

        int largestRow(int days, int what) {
            restart();
            int who = MISSING;
            int size = 0;
            int when = MISSING;
            for (int i = 0; i < days; i++) {
                int day = trial.day;
                int rowed = mill.passDay(trial);
                int pair = largestOf(rowed);
                if (pair != MISSING && mill.rowSize[pair] > size) {
                    who = pair;
                    size = mill.rowSize[pair];
                    when = day;
                }
            }
            if (who == MISSING || what == 0) {
                return who;
            }
            return what == 1 ? size : when;
        }

        /** Of pairs that just had a row the one of the largest size, of several the least. */
        private int largestOf(int rowed) {
            int best = MISSING;
            int size = 0;
            for (int pair = 0; pair < MOST_PAIRS; pair++) {
                if ((rowed >> pair & 1) != 0 && mill.rowSize[pair] > size) {
                    best = pair;
                    size = mill.rowSize[pair];
                }
            }
            return best;
        }

        int hearing(int pair, int saying, int what) {
            restart();
            int rowed = mill.utter(trial, pair, saying);
            return what == 0 ? Integer.bitCount(rowed) : largestOf(rowed);
        }

        int drawnDoors(int times, int days, int below, int what) {
            int rows = 0;
            int wide = 0;
            long x = world.x;
            for (int time = 0; time < times; time++) {
                restart();
                for (int i = 0; i < days; i++) {
                    x = (x * 1103515245L + 12345L) % 2147483648L;
                    if (x / 65536 % 100 < below) {
                        mill.openDoor(trial);
                    }
                    mill.passDay(trial);
                }
                rows += trial.rows - world.state.rows;
                wide += trial.allWide();
            }
            return what == 0 ? rows : wide;
        }

        /** The pair whose bands, as they were kept, part best those that fit. */
        int parting(int what) {
            int best = MISSING;
            int fewest = MISSING;
            if (fits > 0) {
                for (int pair = 0; pair < world.smithy.pairs; pair++) {
                    int alike = mostAlike(pair);
                    if (best == MISSING || alike < fewest) {
                        best = pair;
                        fewest = alike;
                    }
                }
            }
            return what == 0 ? best : fewest;
        }

        void findFits(int rules, int day) {
            fits = 0;
            firstFit = MISSING;
            for (int number = NONE; number < rules && number < MOST_RULES; number++) {
                if (fitsNotes(number, day)) {
                    if (fits == 0) {
                        firstFit = number;
                    }
                    fits++;
                }
            }
        }

        /**
         * Days are numbered from 0, and notes are of how it is when a day has gone by. Bands behind the day
         * asked for are kept where the next that fits has its place.
         */
        private boolean fitsNotes(int number, int day) {
            trial.begin(world.smithy);
            mill.under(number);
            int last = Math.max(day, lastNoted());
            for (int n = 0; n <= last; n++) {
                mill.passDay(trial);
                if (!notesHold(n)) {
                    return false;
                }
                if (n == day) {
                    System.arraycopy(trial.wide, 0, fitWide, fits * MOST_PAIRS, MOST_PAIRS);
                }
            }
            return true;
        }

        private int lastNoted() {
            int last = NO_DAY;
            for (int i = 0; i < world.notes; i++) {
                last = Math.max(last, world.noteDay[i]);
            }
            return last;
        }

        private boolean notesHold(int n) {
            for (int i = 0; i < world.notes; i++) {
                if (world.noteDay[i] == n && trial.wide[world.notePair[i]] != world.noteWide[i]) {
                    return false;
                }
            }
            return true;
        }

        private int mostAlike(int pair) {
            int most = 0;
            for (int one = 0; one < fits; one++) {
                int alike = 0;
                for (int other = 0; other < fits; other++) {
                    if (fitWide[one * MOST_PAIRS + pair] == fitWide[other * MOST_PAIRS + pair]) {
                        alike++;
                    }
                }
                most = Math.max(most, alike);
            }
            return most;
        }
    }

    /** What is asked of how it is now, without a day going by. */
    private static final class Handiwork {
        static final int LARGEST_BROUGHT = 120;
        static final int MOST_TURNS = 4;
        private static final int NEVER = 1000000;
        private static final int SOOTHED = 5;

        private final World world;
        private final int[] fewest = new int[LARGEST_BROUGHT + 1];
        private final int[] bench = new int[MOST_PAIRS];

        Handiwork(World world) {
            this.world = world;
        }

        int bringing(int pair, int size, int what) {
            int temper = world.state.temper[pair];
            if (temper < 0 || temper > size) {
                return MISSING;
            }
            // A saying never soothes: what is needed from higher tempers is known first.
            for (int from = size; from >= temper; from--) {
                int least = NEVER;
                for (int saying = 0; saying < world.smithy.sayings; saying++) {
                    least = Math.min(least, needed(pair, size, from, saying));
                }
                fewest[from] = least;
            }
            if (fewest[temper] >= NEVER) {
                return MISSING;
            }
            return what == 0 ? fewest[temper] : firstBringing(pair, size, temper);
        }

        private int firstBringing(int pair, int size, int temper) {
            for (int saying = 0; saying < world.smithy.sayings; saying++) {
                if (needed(pair, size, temper, saying) == fewest[temper]) {
                    return saying;
                }
            }
            return MISSING;
        }

        /** How many sayings bring the size from a temper, if this is said first. */
        private int needed(int pair, int size, int from, int saying) {
            int temper = raised(pair, from, saying);
            if (temper >= world.smithy.breaks[pair]) {
                return temper == size ? 1 : NEVER;
            }
            return temper > from && temper <= size ? 1 + fewest[temper] : NEVER;
        }

        private int raised(int pair, int temper, int saying) {
            return Math.min(MOST_TEMPER, temper + world.smithy.weight(pair, saying));
        }

        int sparking(int pair) {
            int most = NONE;
            for (int saying = 0; saying < world.smithy.sayings; saying++) {
                most = Math.max(most, world.smithy.weight(pair, saying));
            }
            int lacking = world.smithy.breaks[pair] - world.state.temper[pair];
            if (most == NONE || most == 0 && lacking > 0) {
                return MISSING;
            }
            return lacking <= 0 ? 1 : (lacking + most - 1) / most;
        }

        int smoothDay(int pair) {
            int wear = world.smithy.wear;
            if (wear < 1) {
                return NONE;
            }
            int times = (world.state.wide[pair] + wear - 1) / wear;
            int day = world.state.day;
            return day - day % 10 + 9 + 10 * (times - 1);
        }

        int gaming(int pair, int turns, int what) {
            int most = NONE;
            int first = NONE;
            for (int deed = 0; deed <= world.smithy.sayings; deed++) {
                int temper = afterDeed(pair, world.state.temper[pair], deed);
                int outcome = behindSmith(pair, temper, turns - 1);
                if (outcome > most) {
                    most = outcome;
                    first = deed;
                }
            }
            return what == 0 ? most : first;
        }

        private int afterDeed(int pair, int temper, int deed) {
            if (deed < world.smithy.sayings) {
                return raised(pair, temper, deed);
            }
            return Math.min(MOST_TEMPER, temper + DOOR_TEMPER);
        }

        private boolean isOver(int pair, int temper, int left) {
            return left <= 0 || left >= MOST_TURNS || temper >= world.smithy.breaks[pair];
        }

        private int behindSmith(int pair, int temper, int left) {
            if (isOver(pair, temper, left)) {
                return temper;
            }
            int soothed = behindPair(pair, Math.max(0, temper - SOOTHED), left - 1);
            return Math.min(soothed, behindPair(pair, temper, left - 1));
        }

        private int behindPair(int pair, int temper, int left) {
            if (isOver(pair, temper, left)) {
                return temper;
            }
            int most = NONE;
            for (int deed = 0; deed <= world.smithy.sayings; deed++) {
                int then = afterDeed(pair, temper, deed);
                most = Math.max(most, behindSmith(pair, then, left - 1));
            }
            return most;
        }

        int benching(int what) {
            int pairs = world.smithy.pairs;
            if (what >= pairs) {
                return MISSING;
            }
            for (int benches = 0; benches <= pairs; benches++) {
                if (seat(benches)) {
                    return what < 0 ? benches : bench[what];
                }
            }
            return MISSING;
        }

        /** Tries all rows of so many benches, pair 0's changing last, and keeps the first that does. */
        private boolean seat(int benches) {
            int pairs = world.smithy.pairs;
            int rows = 1;
            for (int pair = 0; pair < pairs; pair++) {
                rows *= benches;
            }
            for (int row = 0; row < rows; row++) {
                int rest = row;
                for (int pair = pairs - 1; pair >= 0 && benches > 0; pair--) {
                    bench[pair] = rest % benches;
                    rest /= benches;
                }
                if (nobodyHears()) {
                    return true;
                }
            }
            return false;
        }

        private boolean nobodyHears() {
            for (int one = 0; one < world.smithy.pairs; one++) {
                for (int other = 0; other < one; other++) {
                    if (bench[one] == bench[other] && (world.smithy.near[one] >> other & 1) != 0) {
                        return false;
                    }
                }
            }
            return true;
        }

        int goldPart(int much, int pair) {
            int all = world.state.allWide();
            if (all <= 0 || world.state.wide[pair] == 0) {
                return 0;
            }
            int left = much;
            int ahead = 0;
            int lost = much * world.state.wide[pair] % all;
            for (int other = 0; other < world.smithy.pairs; other++) {
                int whole = much * world.state.wide[other];
                left -= whole / all;
                if (whole % all > lost || whole % all == lost && other < pair) {
                    ahead++;
                }
            }
            return much * world.state.wide[pair] / all + (ahead < left ? 1 : 0);
        }
    }
}
