import java.util.NoSuchElementException;

/**
 * A machine run by tasks that take turns over shared slots; the document (DOC.md) tells its
 * promises by number. All rows are made with the object and used again by every call.
 */
public final class TwoKeys {
    public static final int NONE = -1;

    private static final int NEVER = -2;
    private static final int TOO_MANY = -3;
    private static final int NO_PLACE = -100;

    private static final int MOST_TEXT = 100;
    private static final int MOST_SIGNS = 60;
    private static final int MOST_LINES = 16;
    private static final int MOST_OPEN = 5;
    private static final int MOST_TASKS = 4;
    private static final int MOST_BOLTS = 3;
    private static final int MOST_PATCHES = 5;
    private static final int MOST_TYPED = 8;
    private static final int MOST_KEPT = 3;
    private static final int MOST_KEYS = 4;
    private static final int SLOTS = 8;
    private static final int PARTS = 4;
    private static final int KEY_SLOT = 7;
    private static final int NUMBERS = 256;

    private static final int MOST_STEPS = 20;
    private static final int MOST_STATES = 4000;
    private static final int MOST_ROUND_STEPS = 6;
    private static final int MOST_ROUND_STATES = 300;
    private static final int MOST_TOLD = 20;
    private static final long MOST_RUNS = 1000000000000L;

    /** What the sets that fewest() goes through are made of. */
    private static final int OF_BOLTS = 0;
    private static final int OF_PATCHES = 1;
    private static final int OF_TYPED = 2;

    private static final int[] EVEN_WEIGHTS = {1, 1, 1, 1, 1};

    private final Reader reader = new Reader();
    private final Walk walk = new Walk();
    private final Machine machine = walk.machine;
    private final Moment now = new Moment();
    private final Moment turned = new Moment();
    private final boolean[] breakingNumbers = new boolean[NUMBERS];
    private final Told told = new Told();
    private final Typing typing = new Typing();
    private final Houses houses = new Houses();
    private final Kept[] kept = new Kept[MOST_KEPT];
    private final int[] firstHand = {1, 1, 1, 1, 1};
    private final int[] secondHand = {1, 1, 1, 1, 1};
    private int handSteps = 0;

    public TwoKeys() {
        for (int i = 0; i < MOST_KEPT; i++) {
            kept[i] = new Kept();
        }
    }

    // ---- the machine

    public int sign(int v) {
        if (reader.signs + 4 > MOST_TEXT) {
            return NONE;
        }
        for (int shift = 24; shift >= 0; shift -= 8) {
            reader.text[reader.signs] = (char) ((v >>> shift) & 255);
            reader.signs++;
        }
        return reader.signs;
    }

    public boolean end(int n) {
        if (n < 0 || n > reader.signs) {
            return false;
        }
        reader.signs = n;
        return true;
    }

    public int task(int task) {
        int length = takeText();
        if (task < 0 || task > machine.taskCount || task >= MOST_TASKS) {
            return NO_PLACE;
        }
        int wrong = reader.readLines(length, MOST_LINES);
        if (wrong >= 0) {
            return -1 - wrong;
        }
        machine.tasks[task] = reader.exchange(machine.tasks[task]);
        if (task == machine.taskCount) {
            machine.taskCount++;
        }
        now.putLine(task, 0);
        forgetKept();
        return machine.tasks[task].lines;
    }

    public int must() {
        int length = takeText();
        if (length == 0) {
            machine.must.clear();
            return 0;
        }
        int wrong = reader.readAsked(length);
        if (wrong >= 0) {
            return -1 - wrong;
        }
        machine.must = reader.exchange(machine.must);
        return 0;
    }

    public int bolt() {
        int length = takeText();
        int bolt = machine.boltCount;
        if (bolt >= MOST_BOLTS) {
            return NO_PLACE;
        }
        int wrong = reader.readAsked(length);
        if (wrong >= 0) {
            return -1 - wrong;
        }
        machine.bolts[bolt] = reader.exchange(machine.bolts[bolt]);
        machine.on |= 1 << bolt;
        machine.boltCount++;
        forgetKept();
        return bolt;
    }

    public boolean turn(int bolt, boolean on) {
        if (bolt < 0 || bolt >= machine.boltCount) {
            return false;
        }
        int bit = 1 << bolt;
        machine.on = on ? machine.on | bit : machine.on & ~bit;
        return true;
    }

    public int slot(int slot, int v) {
        if (slot < 0 || slot >= SLOTS || v < 0 || v > 255) {
            return NONE;
        }
        int before = now.slotValue(slot);
        now.putSlot(slot, v);
        return before;
    }

    public int speed(int part, int v) {
        if (part < 0 || part >= PARTS || v < 0 || v > 15) {
            return NONE;
        }
        int before = machine.speeds[part];
        machine.speeds[part] = v;
        return before;
    }

    public int keys(int k) {
        if (k < 0 || k > MOST_KEYS) {
            return NONE;
        }
        int before = machine.keyCount;
        machine.keyCount = k;
        return before;
    }

    public int step(int task, int key) {
        if (task < 0 || task >= machine.taskCount || key < 0 || key > machine.keyCount) {
            return NONE;
        }
        stepByHand(task, key);
        if (now.fired != 0) {
            return 1;
        }
        if (now.stopped != 0) {
            return 2;
        }
        return now.said == 0 ? 0 : now.said + 2;
    }

    public int steps(int kind, int n, int f, int step) {
        if (kind < 0 || kind > 3 || n > MOST_STEPS) {
            return NONE;
        }
        if (kind == 3) {
            return TOO_MANY;
        }
        if (n < 0) {
            return NEVER;
        }
        int width = machine.keyCount + 1;
        for (int i = 0; i < n; i++) {
            int number = narrowed(kind, f + i * step);
            if (number < 0 || number >= machine.taskCount * width) {
                return i;
            }
            stepByHand(number / width, number % width);
        }
        return n;
    }

    public int at(int what) throws NoSuchElementException {
        if (what < 0 || what > 23) {
            throw new NoSuchElementException();
        }
        if (what < 8) {
            return now.slotValue(what);
        }
        if (what < 12) {
            return now.placeOf(what - 8);
        }
        if (what < 16) {
            return now.targetOf(what - 12);
        }
        if (what < 20) {
            return now.tenthsOf(what - 16);
        }
        return what - 20 < machine.taskCount ? now.lineOf(what - 20) : NONE;
    }

    public int ask() {
        int wrong = reader.readAsked(takeText());
        if (wrong >= 0) {
            return -1 - wrong;
        }
        told.tellOne(machine.value(reader.draft, 0, now));
        return 0;
    }

    // ---- all runs

    public int all(int n) {
        if (refusesRuns(n)) {
            return NONE;
        }
        return explored(n) ? walk.states : TOO_MANY;
    }

    public int never(int n) {
        if (refusesRuns(n)) {
            return NONE;
        }
        if (!explored(n)) {
            return TOO_MANY;
        }
        return tellStepsTo(walk.firstBreak);
    }

    public int reach(int n) {
        int wrong = reader.readAsked(takeText());
        if (refusesRuns(n)) {
            return NONE;
        }
        if (wrong >= 0) {
            return NO_PLACE - wrong;
        }
        machine.question = reader.exchange(machine.question);
        if (!walk.explore(now, n, MOST_STATES, Walk.SEEK_QUESTION, 0)) {
            return TOO_MANY;
        }
        if (machine.value(machine.question, 0, now) != 0) {
            told.clear();
            return 0;
        }
        return tellStepsTo(walk.firstSought);
    }

    public int stuck(int n) {
        if (refusesRuns(n)) {
            return NONE;
        }
        if (!explored(n)) {
            return TOO_MANY;
        }
        if (walk.firstStuck < 0) {
            return NEVER;
        }
        walk.tellSteps(walk.from[walk.firstStuck], told);
        return told.size;
    }

    public int runs(int n) {
        if (refusesRuns(n)) {
            return NONE;
        }
        long all = power(machine.taskCount * (machine.keyCount + 1), n);
        if (all > MOST_RUNS) {
            return NONE;
        }
        if (!explored(n)) {
            return TOO_MANY;
        }
        told.tellTwo(all - walk.weightWithout(Walk.BREAKS, n, EVEN_WEIGHTS), all);
        return 0;
    }

    public int weight(int hand, int key, int v) {
        if (hand < 0 || hand > 1 || key < 0 || key > MOST_KEYS || v < 0 || v > 9) {
            return NONE;
        }
        int[] weights = weightsOf(hand);
        int before = weights[key];
        weights[key] = v;
        return before;
    }

    public int odds(int hand, int n) {
        if (refusesRuns(n) || hand < 0 || hand > 1) {
            return NONE;
        }
        long all = weightOfAll(hand, n);
        if (all > MOST_RUNS) {
            return NONE;
        }
        if (!explored(n)) {
            return TOO_MANY;
        }
        if (all == 0) {
            return NEVER;
        }
        long breaking = all - walk.weightWithout(Walk.BREAKS, n, weightsOf(hand));
        long divisor = commonDivisor(all, breaking);
        told.tellTwo(breaking / divisor, all / divisor);
        return 0;
    }

    public int quick(int n) {
        if (refusesRuns(n)) {
            return NONE;
        }
        long first = weightOfAll(0, n);
        long second = weightOfAll(1, n);
        if (first > MOST_RUNS || second > MOST_RUNS) {
            return NONE;
        }
        if (!explored(n)) {
            return TOO_MANY;
        }
        if (first == 0 || second == 0) {
            return NEVER;
        }
        long firstHolds = walk.weightWithout(Walk.BREAKS, n, firstHand);
        long secondHolds = walk.weightWithout(Walk.BREAKS, n, secondHand);
        int order = comparedFractions(firstHolds, first, secondHolds, second);
        return order == 0 ? 2 : order < 0 ? 0 : 1;
    }

    public int round(int slot, int n) {
        if (refusesRuns(n) || n > MOST_ROUND_STEPS || slot < 0 || slot >= SLOTS) {
            return NONE;
        }
        for (int v = 0; v < NUMBERS; v++) {
            turned.copy(now);
            turned.putSlot(slot, v);
            if (!walk.explore(turned, n, MOST_ROUND_STATES, Walk.SEEK_NOTHING, 0)) {
                return TOO_MANY;
            }
            breakingNumbers[v] = walk.firstBreak >= 0;
        }
        return tellBreakingNumbers();
    }

    public int means(int number, int n) {
        if (refusesRuns(n) || number < 0 || number > 99) {
            return NONE;
        }
        long all = power(machine.taskCount * (machine.keyCount + 1), n);
        if (all > MOST_RUNS) {
            return NONE;
        }
        if (!walk.explore(now, n, MOST_STATES, Walk.SEEK_SAID, number)) {
            return TOO_MANY;
        }
        long silent = walk.weightWithout(Walk.SOUGHT, n, EVEN_WEIGHTS);
        long whole = walk.weightWithout(Walk.BREAKS, n, EVEN_WEIGHTS);
        long neither = walk.weightWithout(Walk.SOUGHT | Walk.BREAKS, n, EVEN_WEIGHTS);
        told.tellTwo(all - silent, all - silent - whole + neither);
        return 0;
    }

    // ---- bolts, mends

    public int hid(int bolt, int n) {
        if (refusesRuns(n) || bolt < 0 || bolt >= machine.boltCount) {
            return NONE;
        }
        if ((machine.on & 1 << bolt) == 0) {
            return NONE;
        }
        if (!walk.explore(now, n, MOST_STATES, Walk.SEEK_HID, bolt)) {
            return TOO_MANY;
        }
        return tellStepsTo(walk.firstSought);
    }

    public int iron(int n) {
        if (refusesRuns(n)) {
            return NONE;
        }
        int on = machine.on;
        int answer = fewest(OF_BOLTS, n, machine.boltCount);
        machine.on = on;
        return answer;
    }

    public int patch(int task, int line) {
        int length = takeText();
        int patch = machine.patchCount;
        if (task < 0 || task >= machine.taskCount || patch >= MOST_PATCHES) {
            return NO_PLACE;
        }
        if (line < 0 || line >= machine.tasks[task].lines) {
            return NO_PLACE;
        }
        int wrong = reader.readLines(length, 1);
        if (wrong >= 0) {
            return -1 - wrong;
        }
        machine.patches[patch] = reader.exchange(machine.patches[patch]);
        machine.patchTask[patch] = task;
        machine.patchLine[patch] = line;
        machine.patchCount++;
        return patch;
    }

    public int mend(int n) {
        if (refusesRuns(n)) {
            return NONE;
        }
        int answer = fewest(OF_PATCHES, n, machine.patchCount);
        machine.usePatches(0);
        return answer;
    }

    public int drop() {
        int before = machine.patchCount;
        machine.patchCount = 0;
        return before;
    }

    // ---- a told typing

    public int type(int key) {
        if (key < 0 || key > MOST_KEYS || typing.length >= MOST_TYPED) {
            return NONE;
        }
        typing.keys[typing.length] = key;
        typing.length++;
        return typing.length;
    }

    public int wipe() {
        int before = typing.length;
        typing.length = 0;
        return before;
    }

    public int fits() {
        if (refusesTyping()) {
            return NONE;
        }
        if (!followed()) {
            return TOO_MANY;
        }
        if (walk.lastBreak < 0) {
            return 0;
        }
        walk.tellSteps(walk.lastBreak, told);
        return 1;
    }

    public int many() {
        if (refusesTyping()) {
            return NONE;
        }
        if (!followed()) {
            return TOO_MANY;
        }
        told.tellTwo(walk.lastBreakWays, power(machine.taskCount, typing.length));
        return 0;
    }

    public int spare() {
        if (refusesTyping()) {
            return NONE;
        }
        return fewest(OF_TYPED, 0, typing.length);
    }

    // ---- shapes

    public int like(int one, int other) {
        int tasks = machine.taskCount;
        if (one < 0 || one >= tasks || other < 0 || other >= tasks) {
            return NONE;
        }
        return tellShape(machine.tasks[one], machine.tasks[other]) ? 1 : 0;
    }

    // ---- houses

    public int given(int house, int week, int marks) {
        if (!Houses.isHouse(house) || week < 0 || week > 99 || marks < 0 || marks > 255) {
            return NONE;
        }
        return houses.addCase(house, week, marks);
    }

    public int letter(int from, int to, int sent, int weeks) {
        if (!Houses.isHouse(from) || !Houses.isHouse(to) || from == to) {
            return NONE;
        }
        if (sent < 0 || sent > 99 || weeks < 0 || weeks > 50) {
            return NONE;
        }
        return houses.addLetter(from, to, sent, weeks);
    }

    public int knew(int house, int week) {
        if (!Houses.isHouse(house) || week < 0 || week > Houses.LAST_WEEK) {
            return NONE;
        }
        return houses.known(house, week);
    }

    public int enough(int marks, int c) {
        if (marks < 0 || marks > 255 || c < 0 || c > Houses.MOST_CASES) {
            return NONE;
        }
        for (int week = 0; week <= Houses.LAST_WEEK; week++) {
            for (int house = 0; house < Houses.HOUSES; house++) {
                if (houses.hasEnough(houses.known(house, week), marks, c)) {
                    told.tellOne(house);
                    return week;
                }
            }
        }
        return NEVER;
    }

    // ---- kept

    public boolean keep(int i) {
        if (i < 0 || i >= MOST_KEPT) {
            return false;
        }
        kept[i].take(now, machine);
        return true;
    }

    public boolean again(int i) {
        if (i < 0 || i >= MOST_KEPT || !kept[i].full) {
            return false;
        }
        kept[i].giveBack(now, machine);
        return true;
    }

    public int count(int what) {
        switch (what) {
            case 0: return machine.taskCount;
            case 1: return machine.keyCount;
            case 2: return machine.boltCount;
            case 3: return machine.on;
            case 4: return machine.patchCount;
            case 5: return typing.length;
            case 6: return houses.cases;
            case 7: return houses.letters;
            case 8: return told.size;
            case 9: return reader.signs;
            case 10: return handSteps;
            case 11: return now.fired;
            case 12: return now.stopped;
            case 13: return now.said;
            case 14: return now.who;
            default: return NONE;
        }
    }

    public long row(int i) throws NoSuchElementException {
        if (i < 0 || i >= told.size) {
            throw new NoSuchElementException();
        }
        return told.numbers[i];
    }

    // ---- what the calls share

    /** Every call that reads THE TEXT leaves it empty, even where it is refused. */
    private int takeText() {
        int length = reader.signs;
        reader.signs = 0;
        return length;
    }

    private boolean refusesRuns(int n) {
        return n < 0 || n > MOST_STEPS || machine.taskCount == 0;
    }

    private boolean refusesTyping() {
        return machine.taskCount == 0 || typing.length == 0;
    }

    private boolean explored(int n) {
        return walk.explore(now, n, MOST_STATES, Walk.SEEK_NOTHING, 0);
    }

    private boolean followed() {
        typing.prepare(0, machine.keyCount);
        return walk.follow(now, typing.tried, typing.length);
    }

    private void forgetKept() {
        for (int i = 0; i < MOST_KEPT; i++) {
            kept[i].full = false;
        }
    }

    private void stepByHand(int task, int key) {
        machine.act(now, task, key);
        handSteps++;
    }

    private static int narrowed(int kind, int v) {
        if (kind == 0) {
            return (byte) v;
        }
        return kind == 1 ? (short) v : v;
    }

    private int tellStepsTo(int last) {
        if (last < 0) {
            return NEVER;
        }
        walk.tellSteps(last, told);
        return told.size;
    }

    private int tellBreakingNumbers() {
        int number = 0;
        told.clear();
        for (int v = 0; v < NUMBERS; v++) {
            if (breakingNumbers[v]) {
                number++;
                told.tellNext(v);
            }
        }
        return number;
    }

    /** Sets of things are tried by how many, then by bits, till one keeps MUST whole. */
    private int fewest(int what, int n, int size) {
        int sets = 1 << size;
        int useful = what == OF_TYPED ? typing.typedBits() : sets - 1;
        for (int number = 0; number <= size; number++) {
            for (int bits = 0; bits < sets; bits++) {
                if (Integer.bitCount(bits) != number || (bits & ~useful) != 0) {
                    continue;
                }
                useSet(what, bits);
                boolean through = what == OF_TYPED
                    ? walk.follow(now, typing.tried, typing.length)
                    : walk.explore(now, n, MOST_STATES, Walk.SEEK_NOTHING, 0);
                if (!through) {
                    return TOO_MANY;
                }
                if (walk.firstBreak < 0) {
                    told.tellOne(bits);
                    return number;
                }
            }
        }
        return NEVER;
    }

    private void useSet(int what, int bits) {
        if (what == OF_BOLTS) {
            machine.on = bits;
        } else if (what == OF_PATCHES) {
            machine.usePatches(bits);
        } else {
            typing.prepare(bits, machine.keyCount);
        }
    }

    private int[] weightsOf(int hand) {
        return hand == 0 ? firstHand : secondHand;
    }

    /** 0 where no KEY can be typed at all, whatever n: with n 0 too there are no odds then. */
    private long weightOfAll(int hand, int n) {
        int[] weights = weightsOf(hand);
        int sum = 0;
        for (int key = 0; key <= machine.keyCount; key++) {
            sum += weights[key];
        }
        return sum == 0 ? 0 : power(machine.taskCount * sum, n);
    }

    /** A power that stops growing once it is too great, so that it can't go round. */
    private static long power(int base, int n) {
        long power = 1;
        for (int i = 0; i < n && power <= MOST_RUNS; i++) {
            power *= base;
        }
        return power;
    }

    private static long commonDivisor(long one, long two) {
        long great = one;
        long small = two;
        for (int i = 0; i < 200 && small != 0; i++) {
            long rest = great % small;
            great = small;
            small = rest;
        }
        return great == 0 ? 1 : great;
    }

    /**
     * Compares a / b with c / d part by part as chains of quotients, since the products across
     * would not fit a long.
     */
    private static int comparedFractions(long a, long b, long c, long d) {
        int sense = 1;
        for (int i = 0; i < 200 && b != 0 && d != 0; i++) {
            long whole = a / b;
            long otherWhole = c / d;
            if (whole != otherWhole) {
                return whole < otherWhole ? -sense : sense;
            }
            long rest = a % b;
            long otherRest = c % d;
            a = b;
            b = rest;
            c = d;
            d = otherRest;
            sense = -sense;
        }
        // a side whose rest is 0 stands for one without end, turned over as often as sense says
        if (b == 0 && d == 0) {
            return 0;
        }
        return b == 0 ? sense : -sense;
    }

    private boolean tellShape(Program one, Program two) {
        if (one.signs != two.signs) {
            return false;
        }
        long forth = 0;
        long back = 0;
        for (int i = 0; i < one.signs; i++) {
            int first = one.text[i] - 'a';
            int second = two.text[i] - 'a';
            if (!Moment.isSlot(first) || !Moment.isSlot(second)) {
                if (first != second) {
                    return false;
                }
                continue;
            }
            int there = nibble(forth, first);
            int here = nibble(back, second);
            if (there == 0 && here == 0) {
                forth |= (long) (second + 1) << (first * 4);
                back |= (long) (first + 1) << (second * 4);
            } else if (there != second + 1 || here != first + 1) {
                return false;
            }
        }
        told.clear();
        for (int slot = 0; slot < SLOTS; slot++) {
            told.tellNext(nibble(forth, slot) - 1);
        }
        return true;
    }

    private static int nibble(long nibbles, int i) {
        return (int) (nibbles >>> (i * 4)) & 15;
    }

    // ---- classes

    /** The numbers that a call told last. */
    private static final class Told {
        final long[] numbers = new long[MOST_TOLD];
        int size = 0;

        void clear() {
            size = 0;
        }

        void tellNext(long number) {
            if (size < MOST_TOLD) {
                numbers[size] = number;
                size++;
            }
        }

        void tellOne(long number) {
            size = 0;
            tellNext(number);
        }

        void tellTwo(long one, long two) {
            size = 0;
            tellNext(one);
            tellNext(two);
        }
    }

    /** A text that was read: its lines, each with a kind, a number and the code of an expression. */
    private static final class Program {
        static final int SET = 0;
        static final int WAIT = 1;
        static final int MOVE = 2;
        static final int JUMP = 3;
        static final int SAY = 4;
        static final int FIRE = 5;
        static final int ASKED = 6;

        final char[] text = new char[MOST_SIGNS];
        final int[] kind = new int[MOST_LINES];
        final int[] number = new int[MOST_LINES];
        final int[] start = new int[MOST_LINES + 1];
        final int[] code = new int[MOST_SIGNS];
        int signs = 0;
        int lines = 0;
        int codes = 0;

        void clear() {
            signs = 0;
            lines = 0;
            codes = 0;
        }

        void copyText(char[] from, int length) {
            signs = Math.min(length, MOST_SIGNS);
            System.arraycopy(from, 0, text, 0, signs);
        }

        void beginLine(int ofKind, int ofNumber) {
            if (lines < MOST_LINES) {
                kind[lines] = ofKind;
                number[lines] = ofNumber;
                start[lines] = codes;
            }
        }

        void endLine() {
            if (lines < MOST_LINES) {
                lines++;
                start[lines] = codes;
            }
        }

        void emit(int c) {
            if (codes < MOST_SIGNS) {
                code[codes] = c;
                codes++;
            }
        }
    }

    /**
     * What the numbers of a code mean: below SLOT a number itself, then things to look up, then
     * what joins them. Things stand ahead of what joins them, so that no code needs brackets.
     */
    private static final class Code {
        static final int SLOT = 1000;
        static final int PART = 1010;
        static final int FIRED = 1020;
        static final int STOPPED = 1021;
        static final int SAID = 1022;
        static final int WHO = 1023;
        static final int OR = 1030;
        static final int AND = 1031;
        static final int LESS = 1032;
        static final int MORE = 1033;
        static final int SAME = 1034;
        static final int PLUS = 1035;
        static final int MINUS = 1036;
        static final int NOT = 1037;
        static final int NEGATIVE = 1038;
        static final int BRACKET = 1039;
        static final int UNKNOWN = -1;

        static int ofThing(int sign, boolean asked) {
            if (sign >= 'a' && sign <= 'h') {
                return SLOT + sign - 'a';
            }
            if (sign >= 'A' && sign <= 'D') {
                return PART + sign - 'A';
            }
            if (!asked) {
                return UNKNOWN;
            }
            switch (sign) {
                case 'F': return FIRED;
                case 'P': return STOPPED;
                case 'S': return SAID;
                case 'W': return WHO;
                default: return UNKNOWN;
            }
        }

        static int ofJoint(int sign) {
            switch (sign) {
                case '|': return OR;
                case '&': return AND;
                case '<': return LESS;
                case '>': return MORE;
                case '=': return SAME;
                case '+': return PLUS;
                case '-': return MINUS;
                default: return UNKNOWN;
            }
        }

        /** How tightly it binds. */
        static int rank(int c) {
            switch (c) {
                case BRACKET: return 0;
                case OR: return 1;
                case AND: return 2;
                case LESS: case MORE: case SAME: return 3;
                case PLUS: case MINUS: return 4;
                default: return 5;
            }
        }
    }

    /** Reads texts into a draft; a text that can't be read leaves all but the draft alone. */
    private static final class Reader {
        static final int END = -1;
        static final int COMPARES = 3;

        /** THE TEXT. */
        final char[] text = new char[MOST_TEXT];
        int signs = 0;
        /** The part of it that is read, and how far. */
        int length = 0;
        int place = 0;
        final int[] held = new int[MOST_SIGNS];
        int holds = 0;
        Program draft = new Program();

        /** The draft goes out, and the one that is not needed any more is the next draft. */
        Program exchange(Program old) {
            Program read = draft;
            draft = old;
            return read;
        }

        /** The place of the first sign that can't stand, or NONE. */
        int readAsked(int taken) {
            begin(taken);
            draft.beginLine(Program.ASKED, 0);
            if (!readExpression(true) || place < length) {
                return place;
            }
            draft.endLine();
            return taken > MOST_SIGNS ? MOST_SIGNS : NONE;
        }

        /** Likewise. */
        int readLines(int taken, int mostLines) {
            begin(taken);
            for (int line = 1; line <= mostLines; line++) {
                if (!readLine()) {
                    return place;
                }
                draft.endLine();
                if (place >= length) {
                    return taken > MOST_SIGNS ? MOST_SIGNS : NONE;
                }
                if (line == mostLines || !passes(';')) {
                    return place;
                }
            }
            return place;
        }

        private void begin(int taken) {
            length = Math.min(taken, MOST_SIGNS);
            place = 0;
            draft.clear();
            draft.copyText(text, length);
        }

        private int look() {
            return place < length ? text[place] : END;
        }

        private boolean passes(int sign) {
            if (look() != sign) {
                return false;
            }
            place++;
            return true;
        }

        private static boolean isDigit(int sign) {
            return sign >= '0' && sign <= '9';
        }

        private boolean readLine() {
            int sign = look();
            if (!readHead(sign)) {
                return false;
            }
            return sign == 's' || sign == 'x' || readExpression(false);
        }

        /** All of a line that stands ahead of its expression. */
        private boolean readHead(int sign) {
            place++;
            if (sign >= 'a' && sign <= 'h') {
                draft.beginLine(Program.SET, sign - 'a');
                return passes('=');
            }
            switch (sign) {
                case '?':
                    draft.beginLine(Program.WAIT, 0);
                    return true;
                case 'm':
                    return readPart() && passes(':');
                case 'j':
                    return readNumbered(Program.JUMP) && passes(':');
                case 's':
                    return readNumbered(Program.SAY);
                case 'x':
                    draft.beginLine(Program.FIRE, 0);
                    return true;
                default:
                    place--;
                    return false;
            }
        }

        private boolean readPart() {
            int part = look() - '0';
            if (part < 0 || part >= PARTS) {
                return false;
            }
            place++;
            draft.beginLine(Program.MOVE, part);
            return true;
        }

        private boolean readNumbered(int kind) {
            if (!isDigit(look())) {
                return false;
            }
            draft.beginLine(kind, readNumber(2));
            return true;
        }

        private int readNumber(int mostDigits) {
            int number = 0;
            for (int i = 0; i < mostDigits && isDigit(look()); i++) {
                number = number * 10 + look() - '0';
                place++;
            }
            return number;
        }

        /**
         * What joins is held back till what binds tighter has been written. It stops, true, at
         * the first sign behind a whole expression, or false at the one that can't stand.
         */
        private boolean readExpression(boolean asked) {
            holds = 0;
            int open = 0;
            boolean wantsThing = true;
            for (int i = 0; i <= MOST_SIGNS; i++) {
                if (wantsThing) {
                    if (look() == '(' && open == MOST_OPEN) {
                        return false;
                    }
                    open += look() == '(' ? 1 : 0;
                    if (!readAhead()) {
                        if (!readThing(asked)) {
                            return false;
                        }
                        wantsThing = false;
                    }
                } else if (look() == ')' && open > 0) {
                    place++;
                    open--;
                    release(1);
                    holds--;
                } else {
                    int joint = Code.ofJoint(look());
                    if (joint == Code.UNKNOWN) {
                        break;
                    }
                    if (!holdJoint(joint)) {
                        return false;
                    }
                    wantsThing = true;
                }
            }
            release(1);
            return open == 0 && !wantsThing;
        }

        /** The signs that may stand ahead of a thing. */
        private boolean readAhead() {
            switch (look()) {
                case '!': hold(Code.NOT); break;
                case '-': hold(Code.NEGATIVE); break;
                case '(': hold(Code.BRACKET); break;
                default: return false;
            }
            place++;
            return true;
        }

        private boolean readThing(boolean asked) {
            if (isDigit(look())) {
                draft.emit(readNumber(3));
                return true;
            }
            int thing = Code.ofThing(look(), asked);
            if (thing == Code.UNKNOWN) {
                return false;
            }
            draft.emit(thing);
            place++;
            return true;
        }

        private boolean holdJoint(int joint) {
            int rank = Code.rank(joint);
            if (rank == COMPARES) {
                release(rank + 1);
                if (heldRank() == COMPARES) {
                    return false;
                }
            } else {
                release(rank);
            }
            hold(joint);
            place++;
            return true;
        }

        private void hold(int c) {
            if (holds < MOST_SIGNS) {
                held[holds] = c;
                holds++;
            }
        }

        private int heldRank() {
            return holds > 0 ? Code.rank(held[holds - 1]) : 0;
        }

        private void release(int lowestRank) {
            while (holds > 0 && heldRank() >= lowestRank) {
                holds--;
                draft.emit(held[holds]);
            }
        }
    }

    /** A STATE, and what the latest STEP to it did. */
    private static final class Moment {
        /** SLOT a lowest, a byte each. */
        long slots = 0;
        /** PARTS (2 bits of place, 4 of tenths each), then LINES (4 bits each). */
        long rest = 0;
        int fired = 0;
        int stopped = 0;
        int said = 0;
        int who = 0;
        /** BOLTS that did not hold as a TASK fired in this STEP, as bits. */
        int failing = 0;

        static boolean isSlot(int i) {
            return i >= 0 && i < SLOTS;
        }

        void copy(Moment from) {
            slots = from.slots;
            rest = from.rest;
        }

        int slotValue(int i) {
            return (int) (slots >>> (i * 8)) & 255;
        }

        void putSlot(int i, int v) {
            int shift = i * 8;
            slots = slots & ~(255L << shift) | (long) (v & 255) << shift;
        }

        int targetOf(int part) {
            return (int) (rest >>> (part * 6)) & 3;
        }

        int tenthsOf(int part) {
            return tenthsIn(rest, part);
        }

        static int tenthsIn(long rest, int part) {
            return (int) (rest >>> (part * 6 + 2)) & 15;
        }

        int placeOf(int part) {
            int bits = (int) (rest >>> (part * 6)) & 63;
            return bits < 4 ? bits : 4;
        }

        void putPart(int part, int place, int tenths) {
            int shift = part * 6;
            long bits = (tenths & 15) << 2 | place & 3;
            rest = rest & ~(63L << shift) | bits << shift;
        }

        int lineOf(int task) {
            return (int) (rest >>> (24 + task * 4)) & 15;
        }

        void putLine(int task, int line) {
            int shift = 24 + task * 4;
            rest = rest & ~(15L << shift) | (long) (line & 15) << shift;
        }

        void beginStep(int task, int key) {
            fired = 0;
            stopped = 0;
            said = 0;
            failing = 0;
            who = task;
            if (key > 0) {
                putSlot(KEY_SLOT, key);
            }
        }

        /** Only what moved as the STEP began loses a tenth, not what the STEP itself set off. */
        void endStep(long restBefore) {
            for (int part = 0; part < PARTS; part++) {
                if (tenthsIn(restBefore, part) > 0) {
                    rest -= 4L << (part * 6);
                }
            }
        }
    }

    /** The programs, bolts and settings, and how a STEP is done by them. */
    private static final class Machine {
        static final int STACK = 64;

        final Program[] tasks = new Program[MOST_TASKS];
        final Program[] bolts = new Program[MOST_BOLTS];
        final Program[] patches = new Program[MOST_PATCHES];
        final int[] patchTask = new int[MOST_PATCHES];
        final int[] patchLine = new int[MOST_PATCHES];
        /** A patch in place of a LINE while patches are tried, else null. */
        final Program[] instead = new Program[MOST_TASKS * MOST_LINES];
        final int[] speeds = {3, 3, 3, 3};
        final int[] stack = new int[STACK];
        Program must = new Program();
        Program question = new Program();
        int taskCount = 0;
        int boltCount = 0;
        int patchCount = 0;
        int keyCount = 2;
        int on = 0;

        Machine() {
            for (int i = 0; i < MOST_TASKS; i++) {
                tasks[i] = new Program();
            }
            for (int i = 0; i < MOST_BOLTS; i++) {
                bolts[i] = new Program();
            }
            for (int i = 0; i < MOST_PATCHES; i++) {
                patches[i] = new Program();
            }
        }

        void usePatches(int bits) {
            for (int i = 0; i < MOST_TASKS * MOST_LINES; i++) {
                instead[i] = null;
            }
            for (int i = 0; i < patchCount; i++) {
                int task = patchTask[i];
                int line = patchLine[i];
                if ((bits & 1 << i) != 0 && line < tasks[task].lines) {
                    instead[task * MOST_LINES + line] = patches[i];
                }
            }
        }

        boolean breaks(Moment m) {
            return must.lines > 0 && value(must, 0, m) == 0;
        }

        void act(Moment m, int task, int key) {
            if (task < 0 || task >= taskCount) {
                return;
            }
            m.beginStep(task, key);
            long before = m.rest;
            int line = m.lineOf(task);
            int lines = tasks[task].lines;
            Program program = instead[task * MOST_LINES + line];
            int own = 0;
            if (program == null) {
                program = tasks[task];
                own = line;
            }
            int v = value(program, own, m);
            int number = program.number[own];
            int next = line + 1;
            switch (program.kind[own]) {
                case Program.SET: m.putSlot(number, v); break;
                case Program.WAIT: next = v == 0 ? line : next; break;
                case Program.MOVE: move(m, number, v & 3); break;
                case Program.JUMP: next = v == 0 ? next : number; break;
                case Program.SAY: m.said = number + 1; break;
                default: fire(m); break;
            }
            m.putLine(task, next < lines ? next : 0);
            m.endStep(before);
        }

        private void move(Moment m, int part, int place) {
            if (part < 0 || part >= PARTS || m.tenthsOf(part) > 0) {
                return;
            }
            m.putPart(part, place, m.targetOf(part) == place ? 0 : speeds[part]);
        }

        private void fire(Moment m) {
            int failing = 0;
            for (int i = 0; i < boltCount; i++) {
                if ((on & 1 << i) != 0 && value(bolts[i], 0, m) == 0) {
                    failing |= 1 << i;
                }
            }
            m.failing = failing;
            m.fired = failing == 0 ? 1 : 0;
            m.stopped = 1 - m.fired;
        }

        /** The stack's places are masked: no code, however made, can leave it. */
        int value(Program program, int line, Moment m) {
            if (line < 0 || line >= program.lines) {
                return 0;
            }
            int top = 0;
            int end = program.start[line + 1];
            for (int i = program.start[line]; i < end; i++) {
                int c = program.code[i];
                if (c < Code.OR) {
                    stack[top & STACK - 1] = c < Code.SLOT ? c : thing(c, m);
                    top++;
                } else if (c >= Code.NOT) {
                    int one = stack[top - 1 & STACK - 1];
                    stack[top - 1 & STACK - 1] = c == Code.NEGATIVE ? -one : one == 0 ? 1 : 0;
                } else {
                    top--;
                    int one = stack[top - 1 & STACK - 1];
                    stack[top - 1 & STACK - 1] = joined(c, one, stack[top & STACK - 1]);
                }
            }
            return top == 1 ? stack[0] : 0;
        }

        private static int thing(int c, Moment m) {
            if (c < Code.PART) {
                return (int) (m.slots >>> ((c - Code.SLOT) * 8)) & 255;
            }
            if (c < Code.FIRED) {
                int bits = (int) (m.rest >>> ((c - Code.PART) * 6)) & 63;
                return bits < 4 ? bits : 4;
            }
            switch (c) {
                case Code.FIRED: return m.fired;
                case Code.STOPPED: return m.stopped;
                case Code.SAID: return m.said;
                default: return m.who;
            }
        }

        private static int joined(int c, int one, int two) {
            switch (c) {
                case Code.OR: return (one | two) != 0 ? 1 : 0;
                case Code.AND: return one != 0 && two != 0 ? 1 : 0;
                case Code.LESS: return one < two ? 1 : 0;
                case Code.MORE: return one > two ? 1 : 0;
                case Code.SAME: return one == two ? 1 : 0;
                case Code.PLUS: return one + two;
                default: return one - two;
            }
        }
    }

    /**
     * Goes through all RUNS, STATE by STATE in the order in which they are first come to: of
     * rows as short, the first by numbers comes first, and so the first found is the one to tell.
     */
    private static final class Walk {
        static final int SEEK_NOTHING = 0;
        static final int SEEK_QUESTION = 1;
        static final int SEEK_SAID = 2;
        static final int SEEK_HID = 3;

        /** Bits of an edge, below the number of the STATE to which it leads. */
        static final int BREAKS = 1;
        static final int SOUGHT = 2;
        static final int EDGE_BITS = 2;

        /** A STEP as one number: the STATE ahead of it, and its own number below 32. */
        static final int STEP_BITS = 5;
        static final int STEP_MASK = 31;
        static final int MOST_MOVES = MOST_TASKS * (MOST_KEYS + 1);
        static final int TABLE = 8192;

        final Machine machine = new Machine();
        final Moment moment = new Moment();
        final long[] slots = new long[MOST_STATES];
        final long[] rests = new long[MOST_STATES];
        final int[] from = new int[MOST_STATES];
        final int[] spots = new int[MOST_STATES];
        /** STATES by their spots, each its number and 1; 0 is free. */
        final int[] table = new int[TABLE];
        final int[] edges = new int[MOST_STATES * MOST_MOVES];
        long[] ways = new long[MOST_STATES];
        long[] laterWays = new long[MOST_STATES];
        int states = 0;
        int most = 0;
        int seek = 0;
        int seekNumber = 0;
        int firstBreak = NONE;
        int firstSought = NONE;
        int firstStuck = NONE;
        int lastBreak = NONE;
        long lastBreakWays = 0;

        /** False: there are more STATES than may be. */
        boolean explore(Moment start, int n, int mostStates, int seekKind, int number) {
            seek = seekKind;
            seekNumber = number;
            begin(start, mostStates);
            int first = 0;
            for (int depth = 0; depth < n; depth++) {
                int end = states;
                for (int state = first; state < end; state++) {
                    if (!expand(state)) {
                        return false;
                    }
                }
                first = end;
            }
            return true;
        }

        private void begin(Moment start, int mostStates) {
            for (int state = 0; state < states; state++) {
                table[spots[state]] = 0;
            }
            states = 0;
            most = Math.min(mostStates, MOST_STATES);
            firstBreak = NONE;
            firstSought = NONE;
            firstStuck = NONE;
            lastBreak = NONE;
            lastBreakWays = 0;
            moment.copy(start);
            find(0, NONE);
        }

        private boolean expand(int state) {
            int move = 0;
            int edge = state * machine.taskCount * (machine.keyCount + 1);
            boolean stays = true;
            for (int task = 0; task < machine.taskCount; task++) {
                for (int key = 0; key <= machine.keyCount; key++) {
                    moment.slots = slots[state];
                    moment.rest = rests[state];
                    machine.act(moment, task, key);
                    int step = state << STEP_BITS | move;
                    int next = find(0, step);
                    if (next < 0) {
                        return false;
                    }
                    int bits = machine.breaks(moment) ? BREAKS : 0;
                    bits |= isSought() ? SOUGHT : 0;
                    noteFirst(step, bits);
                    edges[edge] = next << EDGE_BITS | bits;
                    stays = stays && next == state;
                    edge++;
                    move++;
                }
            }
            if (stays && firstStuck < 0) {
                firstStuck = state;
            }
            return true;
        }

        private boolean isSought() {
            switch (seek) {
                case SEEK_NOTHING:
                    return false;
                case SEEK_QUESTION:
                    return machine.value(machine.question, 0, moment) != 0;
                case SEEK_SAID:
                    return moment.said == seekNumber + 1;
                default:
                    // as if it had been FIRED: the moment is not looked at again behind this
                    moment.fired = 1;
                    moment.stopped = 0;
                    return moment.failing == 1 << seekNumber && machine.breaks(moment);
            }
        }

        private void noteFirst(int step, int bits) {
            if (firstBreak < 0 && (bits & BREAKS) != 0) {
                firstBreak = step;
            }
            if (firstSought < 0 && (bits & SOUGHT) != 0) {
                firstSought = step;
            }
        }

        /** The number of the moment's STATE, new or not older than told; NONE if it would be one too many. */
        private int find(int oldest, int step) {
            long mixed = moment.slots * 0x9E3779B97F4A7C15L ^ moment.rest * 0xC2B2AE3D27D4EB4FL;
            int spot = (int) ((mixed ^ mixed >>> 29) >>> 17) & TABLE - 1;
            for (int tries = 0; tries < TABLE; tries++) {
                int state = table[spot] - 1;
                if (state < 0) {
                    return add(spot, step);
                }
                if (state >= oldest && slots[state] == moment.slots && rests[state] == moment.rest) {
                    return state;
                }
                spot = spot + 1 & TABLE - 1;
            }
            return NONE;
        }

        private int add(int spot, int step) {
            if (states >= most) {
                return NONE;
            }
            slots[states] = moment.slots;
            rests[states] = moment.rest;
            from[states] = step;
            spots[states] = spot;
            ways[states] = 0;
            states++;
            table[spot] = states;
            return states - 1;
        }

        /** The weights of all RUNS of n STEPS none of which has one of the bits, added up. */
        long weightWithout(int bits, int n, int[] weights) {
            for (int state = 0; state < states; state++) {
                ways[state] = 0;
            }
            ways[0] = 1;
            for (int depth = 0; depth < n; depth++) {
                for (int state = 0; state < states; state++) {
                    laterWays[state] = 0;
                }
                for (int state = 0; state < states; state++) {
                    if (ways[state] != 0) {
                        spread(state, bits, weights);
                    }
                }
                long[] swapped = ways;
                ways = laterWays;
                laterWays = swapped;
            }
            long sum = 0;
            for (int state = 0; state < states; state++) {
                sum += ways[state];
            }
            return sum;
        }

        private void spread(int state, int bits, int[] weights) {
            int edge = state * machine.taskCount * (machine.keyCount + 1);
            for (int task = 0; task < machine.taskCount; task++) {
                for (int key = 0; key <= machine.keyCount; key++) {
                    int led = edges[edge];
                    if ((led & bits) == 0) {
                        laterWays[led >> EDGE_BITS] += ways[state] * weights[key];
                    }
                    edge++;
                }
            }
        }

        /**
         * Goes through a typing, STEP by STEP; the same STATE behind two STEPS is two, since each
         * STEP has a KEY of its own. False: there are too many.
         */
        boolean follow(Moment start, int[] keys, int length) {
            begin(start, MOST_STATES);
            ways[0] = 1;
            int first = 0;
            for (int i = 0; i < length && i < MOST_TYPED; i++) {
                int end = states;
                for (int state = first; state < end; state++) {
                    if (!followFrom(state, end, keys[i], i == length - 1)) {
                        return false;
                    }
                }
                first = end;
            }
            return true;
        }

        private boolean followFrom(int state, int oldest, int key, boolean last) {
            for (int task = 0; task < machine.taskCount; task++) {
                moment.slots = slots[state];
                moment.rest = rests[state];
                machine.act(moment, task, key);
                int step = state << STEP_BITS | task;
                if (machine.breaks(moment)) {
                    firstBreak = firstBreak < 0 ? step : firstBreak;
                    if (last) {
                        lastBreak = lastBreak < 0 ? step : lastBreak;
                        lastBreakWays += ways[state];
                    }
                } else {
                    int next = find(oldest, step);
                    if (next < 0) {
                        return false;
                    }
                    ways[next] += ways[state];
                }
            }
            return true;
        }

        /** The row of STEPS from the start to this one, the last of them. */
        void tellSteps(int last, Told told) {
            int length = 0;
            for (int step = last; step >= 0 && length < MOST_TOLD; step = from[step >> STEP_BITS]) {
                length++;
            }
            told.size = length;
            int step = last;
            for (int i = length - 1; i >= 0 && step >= 0; i--) {
                told.numbers[i] = step & STEP_MASK;
                step = from[step >> STEP_BITS];
            }
        }
    }

    /** A row of KEYS, and the same as it is tried with some left out. */
    private static final class Typing {
        final int[] keys = new int[MOST_TYPED];
        final int[] tried = new int[MOST_TYPED];
        int length = 0;

        void prepare(int leftOut, int keyCount) {
            for (int i = 0; i < length; i++) {
                boolean typed = keys[i] <= keyCount && (leftOut & 1 << i) == 0;
                tried[i] = typed ? keys[i] : 0;
            }
        }

        int typedBits() {
            int bits = 0;
            for (int i = 0; i < length; i++) {
                bits |= keys[i] == 0 ? 0 : 1 << i;
            }
            return bits;
        }
    }

    /** Who knows of which cases, and from when on. */
    private static final class Houses {
        static final int HOUSES = 6;
        static final int MOST_CASES = 12;
        static final int MOST_LETTERS = 12;
        static final int LAST_WEEK = 200;

        final int[] caseHouse = new int[MOST_CASES];
        final int[] caseWeek = new int[MOST_CASES];
        final int[] caseMarks = new int[MOST_CASES];
        final int[] sender = new int[MOST_LETTERS];
        final int[] receiver = new int[MOST_LETTERS];
        final int[] sentWeek = new int[MOST_LETTERS];
        final int[] comingWeek = new int[MOST_LETTERS];
        /** The cases that a letter tells of, as bits. */
        final int[] tells = new int[MOST_LETTERS];
        int cases = 0;
        int letters = 0;

        static boolean isHouse(int house) {
            return house >= 0 && house < HOUSES;
        }

        int addCase(int house, int week, int marks) {
            if (cases >= MOST_CASES) {
                return NONE;
            }
            caseHouse[cases] = house;
            caseWeek[cases] = week;
            caseMarks[cases] = marks;
            cases++;
            settle();
            return cases - 1;
        }

        int addLetter(int from, int to, int sent, int weeks) {
            if (letters >= MOST_LETTERS) {
                return NONE;
            }
            sender[letters] = from;
            receiver[letters] = to;
            sentWeek[letters] = sent;
            comingWeek[letters] = sent + weeks;
            tells[letters] = 0;
            letters++;
            settle();
            return letters;
        }

        /** What letters tell only grows, and a chain of letters is no longer than there are letters. */
        private void settle() {
            for (int times = 0; times < letters; times++) {
                for (int i = 0; i < letters; i++) {
                    tells[i] = known(sender[i], sentWeek[i]);
                }
            }
        }

        int known(int house, int week) {
            int bits = 0;
            for (int i = 0; i < cases; i++) {
                if (caseHouse[i] == house && caseWeek[i] <= week) {
                    bits |= 1 << i;
                }
            }
            for (int i = 0; i < letters; i++) {
                if (receiver[i] == house && comingWeek[i] <= week) {
                    bits |= tells[i];
                }
            }
            return bits;
        }

        boolean hasEnough(int known, int marks, int fewest) {
            int together = 0;
            int number = 0;
            for (int i = 0; i < cases; i++) {
                int shared = (known & 1 << i) != 0 ? caseMarks[i] & marks : 0;
                together |= shared;
                number += shared != 0 ? 1 : 0;
            }
            return together == marks && number >= fewest;
        }
    }

    /** What keep() keeps; what the latest STEP did is no part of it. */
    private static final class Kept {
        final Moment moment = new Moment();
        final int[] speeds = new int[PARTS];
        int keyCount = 0;
        int on = 0;
        boolean full = false;

        void take(Moment now, Machine machine) {
            moment.copy(now);
            System.arraycopy(machine.speeds, 0, speeds, 0, PARTS);
            keyCount = machine.keyCount;
            on = machine.on;
            full = true;
        }

        void giveBack(Moment now, Machine machine) {
            now.copy(moment);
            System.arraycopy(speeds, 0, machine.speeds, 0, PARTS);
            machine.keyCount = keyCount;
            machine.on = on;
        }
    }
}
