import java.math.BigInteger;
import java.util.ArrayList;
import java.util.Arrays;
import java.util.HashMap;
import java.util.HashSet;
import java.util.LinkedHashSet;
import java.util.List;
import java.util.Map;
import java.util.NoSuchElementException;
import java.util.Set;

/**
 * The document written down a second time, as slowly and plainly as may be, for tests to compare
 * with: texts are read anew each time they are asked, and runs are gone through by recursion.
 */
final class Plain {
    private static final BigInteger MOST = BigInteger.valueOf(1000000000000L);

    /** A sign that can't stand. */
    private static final class Wrong extends RuntimeException {
        final int place;

        Wrong(int place) {
            super(null, null, false, false);
            this.place = place;
        }
    }

    private static final class State {
        final int[] slots = new int[8];
        final int[] places = new int[4];
        final int[] tenths = new int[4];
        final int[] lines = new int[4];

        State copy() {
            State s = new State();
            System.arraycopy(slots, 0, s.slots, 0, 8);
            System.arraycopy(places, 0, s.places, 0, 4);
            System.arraycopy(tenths, 0, s.tenths, 0, 4);
            System.arraycopy(lines, 0, s.lines, 0, 4);
            return s;
        }

        @Override public boolean equals(Object o) {
            return o instanceof State s && Arrays.equals(slots, s.slots) && Arrays.equals(places, s.places)
                && Arrays.equals(tenths, s.tenths) && Arrays.equals(lines, s.lines);
        }

        @Override public int hashCode() {
            return Arrays.hashCode(slots) * 31 * 31 * 31 + Arrays.hashCode(places) * 31 * 31
                + Arrays.hashCode(tenths) * 31 + Arrays.hashCode(lines);
        }
    }

    /** What a STEP came to. */
    private static final class After {
        State state;
        int fired;
        int stopped;
        int said;
        int who;
        Set<Integer> failing = new HashSet<>();
    }

    private record Patch(int task, int line, String text) { }

    private record Case(int house, int week, int marks) { }

    private record Letter(int from, int to, int sent, int weeks) { }

    private record Kept(State state, int keys, int[] speeds, Set<Integer> on) { }

    /** Recursive descent over a text; with no state it only looks whether the text can stand. */
    private static final class Expression {
        final String text;
        final boolean asked;
        final After a;
        int p;
        int depth;

        Expression(String text, int p, boolean asked, After a) {
            this.text = text;
            this.p = p;
            this.asked = asked;
            this.a = a;
        }

        char look() {
            return p < text.length() ? text.charAt(p) : (char) 0xFFFF;
        }

        int or() {
            int v = and();
            while (look() == '|') {
                p++;
                int w = and();
                v = v != 0 || w != 0 ? 1 : 0;
            }
            return v;
        }

        int and() {
            int v = compare();
            while (look() == '&') {
                p++;
                int w = compare();
                v = v != 0 && w != 0 ? 1 : 0;
            }
            return v;
        }

        int compare() {
            int v = sum();
            char c = look();
            if (c != '<' && c != '>' && c != '=') {
                return v;
            }
            p++;
            int w = sum();
            return (c == '<' ? v < w : c == '>' ? v > w : v == w) ? 1 : 0;
        }

        int sum() {
            int v = ahead();
            while (look() == '+' || look() == '-') {
                boolean plus = look() == '+';
                p++;
                int w = ahead();
                v = plus ? v + w : v - w;
            }
            return v;
        }

        int ahead() {
            if (look() == '!') {
                p++;
                return ahead() == 0 ? 1 : 0;
            }
            if (look() == '-') {
                p++;
                return -ahead();
            }
            return thing();
        }

        int thing() {
            char c = look();
            if (c == '(') {
                if (depth == 5) {
                    throw new Wrong(p);
                }
                depth++;
                p++;
                int v = or();
                if (look() != ')') {
                    throw new Wrong(p);
                }
                p++;
                depth--;
                return v;
            }
            if (c >= '0' && c <= '9') {
                int v = 0;
                for (int i = 0; i < 3 && look() >= '0' && look() <= '9'; i++) {
                    v = v * 10 + (look() - '0');
                    p++;
                }
                return v;
            }
            int i = "abcdefgh".indexOf(c);
            int j = "ABCD".indexOf(c);
            int k = asked ? "FPSW".indexOf(c) : -1;
            if (i < 0 && j < 0 && k < 0) {
                throw new Wrong(p);
            }
            p++;
            if (a == null) {
                return 0;
            }
            if (i >= 0) {
                return a.state.slots[i];
            }
            if (j >= 0) {
                return a.state.tenths[j] > 0 ? 4 : a.state.places[j];
            }
            return k == 0 ? a.fired : k == 1 ? a.stopped : k == 2 ? a.said : a.who;
        }
    }

    private String text = "";
    private final List<String> tasks = new ArrayList<>();
    private String must = "";
    private final List<String> bolts = new ArrayList<>();
    private Set<Integer> on = new HashSet<>();
    private List<Patch> patches = new ArrayList<>();
    private Map<Integer, String> instead = new HashMap<>();
    private final int[] speeds = {3, 3, 3, 3};
    private int keys = 2;
    private After now = new After();
    private final int[][] weights = {{1, 1, 1, 1, 1}, {1, 1, 1, 1, 1}};
    private final List<Integer> typed = new ArrayList<>();
    private final List<Case> cases = new ArrayList<>();
    private final List<Letter> letters = new ArrayList<>();
    private final Kept[] kept = new Kept[3];
    private List<Long> row = new ArrayList<>();
    private int handSteps;

    Plain() {
        now.state = new State();
    }

    // ---- texts

    private static int expressionIn(String line, int from, boolean asked) {
        Expression e = new Expression(line, from, asked, null);
        e.or();
        return e.p;
    }

    private static int digits(String t, int p, int least, int most) {
        int n = 0;
        while (n < most && p + n < t.length() && Character.digit(t.charAt(p + n), 10) >= 0 && t.charAt(p + n) < 128) {
            n++;
        }
        if (n < least) {
            throw new Wrong(p + n);
        }
        return p + n;
    }

    private static int expect(String t, int p, char c) {
        if (p >= t.length() || t.charAt(p) != c) {
            throw new Wrong(p);
        }
        return p + 1;
    }

    private static int lineIn(String t, int p) {
        char c = p < t.length() ? t.charAt(p) : (char) 0xFFFF;
        if (c >= 'a' && c <= 'h') {
            return expressionIn(t, expect(t, p + 1, '='), false);
        }
        switch (c) {
            case '?': return expressionIn(t, p + 1, false);
            case 'm':
                if (p + 1 >= t.length() || "0123".indexOf(t.charAt(p + 1)) < 0) {
                    throw new Wrong(p + 1);
                }
                return expressionIn(t, expect(t, p + 2, ':'), false);
            case 'j': return expressionIn(t, expect(t, digits(t, p + 1, 1, 2), ':'), false);
            case 's': return digits(t, p + 1, 1, 2);
            case 'x': return p + 1;
            default: throw new Wrong(p);
        }
    }

    /** -1, or the place of the first sign that can't stand. */
    private static int wrongIn(String whole, int kind) {
        String t = whole.length() > 60 ? whole.substring(0, 60) : whole;
        try {
            int p = 0;
            if (kind == 2) {
                p = expressionIn(t, 0, true);
            } else {
                int lines = 1;
                p = lineIn(t, 0);
                while (kind == 0 && p < t.length() && t.charAt(p) == ';' && lines < 16) {
                    p = lineIn(t, p + 1);
                    lines++;
                }
            }
            if (p < t.length()) {
                return p;
            }
            return whole.length() > 60 ? 60 : -1;
        } catch (Wrong w) {
            return w.place;
        }
    }

    private String take() {
        String t = text;
        text = "";
        return t;
    }

    // ---- steps

    private static int value(String expression, boolean asked, After a) {
        return new Expression(expression, 0, asked, a).or();
    }

    private String[] linesOf(int task) {
        return tasks.get(task).split(";", -1);
    }

    private After stepped(State from, int task, int key) {
        After a = new After();
        a.state = from.copy();
        a.who = task;
        State s = a.state;
        if (key > 0) {
            s.slots[7] = key;
        }
        String[] lines = linesOf(task);
        int line = s.lines[task];
        String todo = instead.getOrDefault(task * 100 + line, lines[line]);
        int next = (line + 1) % lines.length;
        char c = todo.charAt(0);
        if (c == '?') {
            next = value(todo.substring(1), false, a) != 0 ? next : line;
        } else if (c == 'm') {
            int part = todo.charAt(1) - '0';
            int v = value(todo.substring(3), false, a) & 3;
            if (s.tenths[part] == 0) {
                s.tenths[part] = v == s.places[part] ? 0 : speeds[part];
                s.places[part] = v;
            }
        } else if (c == 'j') {
            int colon = todo.indexOf(':');
            int to = Integer.parseInt(todo.substring(1, colon));
            if (value(todo.substring(colon + 1), false, a) != 0) {
                next = to < lines.length ? to : 0;
            }
        } else if (c == 's') {
            a.said = Integer.parseInt(todo.substring(1)) + 1;
        } else if (c == 'x') {
            for (int b : on) {
                if (value(bolts.get(b), true, a) == 0) {
                    a.failing.add(b);
                }
            }
            a.fired = a.failing.isEmpty() ? 1 : 0;
            a.stopped = 1 - a.fired;
        } else {
            s.slots[c - 'a'] = value(todo.substring(2), false, a) & 255;
        }
        s.lines[task] = next;
        for (int part = 0; part < 4; part++) {
            if (from.tenths[part] > 0) {
                s.tenths[part]--;
            }
        }
        return a;
    }

    private After stepped(State from, int number) {
        return stepped(from, number / (keys + 1), number % (keys + 1));
    }

    private int moves() {
        return tasks.size() * (keys + 1);
    }

    private boolean breaks(After a) {
        return !must.isEmpty() && value(must, true, a) == 0;
    }

    // ---- all runs

    private boolean refuses(int n) {
        return n < 0 || n > 20 || tasks.isEmpty();
    }

    /** How many STATES, or most + 1 if there are more than most. */
    private int statesOf(State start, int n, int most) {
        Set<State> seen = new HashSet<>();
        seen.add(start);
        Set<State> latest = new LinkedHashSet<>(seen);
        for (int i = 0; i < n && !latest.isEmpty(); i++) {
            Set<State> later = new LinkedHashSet<>();
            for (State s : latest) {
                for (int m = 0; m < moves(); m++) {
                    State t = stepped(s, m).state;
                    if (seen.add(t)) {
                        later.add(t);
                        if (seen.size() > most) {
                            return most + 1;
                        }
                    }
                }
            }
            latest = later;
        }
        return seen.size();
    }

    private interface Test {
        boolean holds(After a);
    }

    /** Whether a run of just so many STEPS ends with such a STEP. */
    private boolean ends(State s, int left, Test test, Map<State, Set<Integer>> cannot) {
        Set<Integer> no = cannot.computeIfAbsent(s, k -> new HashSet<>());
        if (no.contains(left)) {
            return false;
        }
        for (int m = 0; m < moves(); m++) {
            After a = stepped(s, m);
            if (left == 1 ? test.holds(a) : ends(a.state, left - 1, test, cannot)) {
                return true;
            }
        }
        no.add(left);
        return false;
    }

    /** The shortest row of STEPS, the first by numbers, whose last one is such; null: none. */
    private List<Long> shortest(int n, Test test) {
        Map<State, Set<Integer>> cannot = new HashMap<>();
        for (int length = 1; length <= n; length++) {
            if (!ends(now.state, length, test, cannot)) {
                continue;
            }
            List<Long> path = new ArrayList<>();
            State s = now.state;
            for (int left = length; left > 0; left--) {
                for (int m = 0; m < moves(); m++) {
                    After a = stepped(s, m);
                    if (left == 1 ? test.holds(a) : ends(a.state, left - 1, test, cannot)) {
                        path.add((long) m);
                        s = a.state;
                        break;
                    }
                }
            }
            return path;
        }
        return null;
    }

    private int tellSteps(List<Long> path) {
        if (path == null) {
            return -2;
        }
        row = path;
        return path.size();
    }

    private boolean isStuck(State s) {
        for (int m = 0; m < moves(); m++) {
            if (!stepped(s, m).state.equals(s)) {
                return false;
            }
        }
        return true;
    }

    private boolean canBreak(State start, int n) {
        Set<State> latest = new HashSet<>();
        latest.add(start);
        for (int i = 0; i < n; i++) {
            Set<State> later = new HashSet<>();
            for (State s : latest) {
                for (int m = 0; m < moves(); m++) {
                    After a = stepped(s, m);
                    if (breaks(a)) {
                        return true;
                    }
                    later.add(a.state);
                }
            }
            latest = later;
        }
        return false;
    }

    /** Weights of runs of so many STEPS more by what they have done: bit 0 broken, bit 1 said. */
    private BigInteger[] tally(State s, int left, int[] w, int number, Map<State, Map<Integer, BigInteger[]>> memo) {
        Map<Integer, BigInteger[]> of = memo.computeIfAbsent(s, k -> new HashMap<>());
        BigInteger[] done = of.get(left);
        if (done != null) {
            return done;
        }
        BigInteger[] sums = {BigInteger.ZERO, BigInteger.ZERO, BigInteger.ZERO, BigInteger.ZERO};
        if (left == 0) {
            sums[0] = BigInteger.ONE;
        } else {
            for (int task = 0; task < tasks.size(); task++) {
                for (int key = 0; key <= keys; key++) {
                    After a = stepped(s, task, key);
                    int did = (breaks(a) ? 1 : 0) | (a.said == number + 1 ? 2 : 0);
                    BigInteger[] rest = tally(a.state, left - 1, w, number, memo);
                    for (int b = 0; b < 4; b++) {
                        sums[b | did] = sums[b | did].add(rest[b].multiply(BigInteger.valueOf(w[key])));
                    }
                }
            }
        }
        of.put(left, sums);
        return sums;
    }

    private BigInteger[] tally(int n, int[] w, int number) {
        return tally(now.state, n, w, number, new HashMap<>());
    }

    private static void tell(List<Long> to, BigInteger... numbers) {
        for (BigInteger b : numbers) {
            to.add(b.longValueExact());
        }
    }

    // ---- the face

    int sign(int v) {
        if (text.length() > 96) {
            return -1;
        }
        for (int i = 3; i >= 0; i--) {
            text += (char) ((v >> (8 * i)) & 0xFF);
        }
        return text.length();
    }

    boolean end(int n) {
        if (n < 0 || n > text.length()) {
            return false;
        }
        text = text.substring(0, n);
        return true;
    }

    int task(int task) {
        String t = take();
        if (task < 0 || task > tasks.size() || task > 3) {
            return -100;
        }
        int wrong = wrongIn(t, 0);
        if (wrong >= 0) {
            return -1 - wrong;
        }
        if (task == tasks.size()) {
            tasks.add(t);
        } else {
            tasks.set(task, t);
        }
        now.state = now.state.copy();
        now.state.lines[task] = 0;
        Arrays.fill(kept, null);
        return linesOf(task).length;
    }

    int must() {
        String t = take();
        int wrong = t.isEmpty() ? -1 : wrongIn(t, 2);
        if (wrong >= 0) {
            return -1 - wrong;
        }
        must = t;
        return 0;
    }

    int bolt() {
        String t = take();
        if (bolts.size() == 3) {
            return -100;
        }
        int wrong = wrongIn(t, 2);
        if (wrong >= 0) {
            return -1 - wrong;
        }
        bolts.add(t);
        on.add(bolts.size() - 1);
        Arrays.fill(kept, null);
        return bolts.size() - 1;
    }

    boolean turn(int bolt, boolean to) {
        if (bolt < 0 || bolt >= bolts.size()) {
            return false;
        }
        if (to) {
            on.add(bolt);
        } else {
            on.remove(bolt);
        }
        return true;
    }

    int slot(int slot, int v) {
        if (slot < 0 || slot > 7 || v < 0 || v > 255) {
            return -1;
        }
        now.state = now.state.copy();
        int before = now.state.slots[slot];
        now.state.slots[slot] = v;
        return before;
    }

    int speed(int part, int v) {
        if (part < 0 || part > 3 || v < 0 || v > 15) {
            return -1;
        }
        int before = speeds[part];
        speeds[part] = v;
        return before;
    }

    int keys(int k) {
        if (k < 0 || k > 4) {
            return -1;
        }
        int before = keys;
        keys = k;
        return before;
    }

    int step(int task, int key) {
        if (task < 0 || task >= tasks.size() || key < 0 || key > keys) {
            return -1;
        }
        now = stepped(now.state, task, key);
        handSteps++;
        return now.fired == 1 ? 1 : now.stopped == 1 ? 2 : now.said > 0 ? now.said - 1 + 3 : 0;
    }

    int steps(int kind, int n, int f, int step) {
        if (kind < 0 || kind > 3 || n > 20) {
            return -1;
        }
        if (kind == 3) {
            return -3;
        }
        if (n < 0) {
            return -2;
        }
        int entry = f;
        for (int i = 0; i < n; i++) {
            int e = kind == 0 ? (byte) entry : kind == 1 ? (short) entry : entry;
            if (e < 0 || e >= moves()) {
                return i;
            }
            step(e / (keys + 1), e % (keys + 1));
            entry += step;
        }
        return n;
    }

    int at(int what) {
        State s = now.state;
        if (what < 0 || what > 23) {
            throw new NoSuchElementException();
        }
        int i = what % 4;
        switch (what / 4) {
            case 0: case 1: return s.slots[what];
            case 2: return s.tenths[i] > 0 ? 4 : s.places[i];
            case 3: return s.places[i];
            case 4: return s.tenths[i];
            default: return i < tasks.size() ? s.lines[i] : -1;
        }
    }

    int ask() {
        String t = take();
        int wrong = wrongIn(t, 2);
        if (wrong >= 0) {
            return -1 - wrong;
        }
        row = new ArrayList<>(List.of((long) value(t, true, now)));
        return 0;
    }

    int all(int n) {
        if (refuses(n)) {
            return -1;
        }
        int states = statesOf(now.state, n, 4000);
        return states > 4000 ? -3 : states;
    }

    int never(int n) {
        int states = all(n);
        return states < 0 ? states : tellSteps(shortest(n, this::breaks));
    }

    int reach(int n) {
        String t = take();
        if (refuses(n)) {
            return -1;
        }
        int wrong = wrongIn(t, 2);
        if (wrong >= 0) {
            return -100 - wrong;
        }
        if (all(n) < 0) {
            return -3;
        }
        if (value(t, true, now) != 0) {
            row = new ArrayList<>();
            return 0;
        }
        return tellSteps(shortest(n, a -> value(t, true, a) != 0));
    }

    int stuck(int n) {
        int states = all(n);
        if (states < 0) {
            return states;
        }
        if (n > 0 && isStuck(now.state)) {
            row = new ArrayList<>();
            return 0;
        }
        return tellSteps(shortest(n - 1, a -> isStuck(a.state)));
    }

    int runs(int n) {
        if (refuses(n) || BigInteger.valueOf(moves()).pow(n).compareTo(MOST) > 0) {
            return -1;
        }
        if (all(n) < 0) {
            return -3;
        }
        BigInteger[] t = tally(n, new int[] {1, 1, 1, 1, 1}, -7);
        row = new ArrayList<>();
        tell(row, t[1], t[0].add(t[1]));
        return 0;
    }

    int weight(int hand, int key, int v) {
        if (hand < 0 || hand > 1 || key < 0 || key > 4 || v < 0 || v > 9) {
            return -1;
        }
        int before = weights[hand][key];
        weights[hand][key] = v;
        return before;
    }

    private int sumOf(int hand) {
        int sum = 0;
        for (int key = 0; key <= keys; key++) {
            sum += weights[hand][key];
        }
        return sum;
    }

    private boolean tooGreat(int hand, int n) {
        return BigInteger.valueOf((long) sumOf(hand) * tasks.size()).pow(n).compareTo(MOST) > 0;
    }

    int odds(int hand, int n) {
        if (refuses(n) || hand < 0 || hand > 1 || tooGreat(hand, n)) {
            return -1;
        }
        if (all(n) < 0) {
            return -3;
        }
        if (sumOf(hand) == 0) {
            return -2;
        }
        BigInteger[] t = tally(n, weights[hand], -7);
        BigInteger whole = t[0].add(t[1]);
        BigInteger d = whole.gcd(t[1]);
        row = new ArrayList<>();
        tell(row, t[1].divide(d), whole.divide(d));
        return 0;
    }

    int quick(int n) {
        if (refuses(n) || tooGreat(0, n) || tooGreat(1, n)) {
            return -1;
        }
        if (all(n) < 0) {
            return -3;
        }
        if (sumOf(0) == 0 || sumOf(1) == 0) {
            return -2;
        }
        BigInteger[] t = tally(n, weights[0], -7);
        BigInteger[] u = tally(n, weights[1], -7);
        int order = t[1].multiply(u[0].add(u[1])).compareTo(u[1].multiply(t[0].add(t[1])));
        return order > 0 ? 0 : order < 0 ? 1 : 2;
    }

    int round(int slot, int n) {
        if (refuses(n) || n > 6 || slot < 0 || slot > 7) {
            return -1;
        }
        List<Long> found = new ArrayList<>();
        for (int v = 0; v < 256; v++) {
            State s = now.state.copy();
            s.slots[slot] = v;
            if (statesOf(s, n, 300) > 300) {
                return -3;
            }
            if (canBreak(s, n)) {
                found.add((long) v);
            }
        }
        row = new ArrayList<>(found.subList(0, Math.min(20, found.size())));
        return found.size();
    }

    int means(int number, int n) {
        if (number < 0 || number > 99 || refuses(n) || BigInteger.valueOf(moves()).pow(n).compareTo(MOST) > 0) {
            return -1;
        }
        if (all(n) < 0) {
            return -3;
        }
        BigInteger[] t = tally(n, new int[] {1, 1, 1, 1, 1}, number);
        row = new ArrayList<>();
        tell(row, t[2].add(t[3]), t[3]);
        return 0;
    }

    int hid(int bolt, int n) {
        if (refuses(n) || !on.contains(bolt)) {
            return -1;
        }
        if (all(n) < 0) {
            return -3;
        }
        return tellSteps(shortest(n, a -> {
            if (!a.failing.equals(Set.of(bolt))) {
                return false;
            }
            After b = new After();
            b.state = a.state;
            b.fired = 1;
            b.said = a.said;
            b.who = a.who;
            return breaks(b);
        }));
    }

    private interface Try {
        /** -3, 1 if it does, 0 if not. */
        int of(int bits);
    }

    private int fewest(int size, Try one) {
        for (int number = 0; number <= size; number++) {
            for (int bits = 0; bits < 1 << size; bits++) {
                if (Integer.bitCount(bits) == number) {
                    int answer = one.of(bits);
                    if (answer == -3) {
                        return -3;
                    }
                    if (answer == 1) {
                        row = new ArrayList<>(List.of((long) bits));
                        return number;
                    }
                }
            }
        }
        return -2;
    }

    int iron(int n) {
        if (refuses(n)) {
            return -1;
        }
        Set<Integer> before = on;
        int answer = fewest(bolts.size(), bits -> {
            on = new HashSet<>();
            for (int b = 0; b < 3; b++) {
                if ((bits >> b) % 2 == 1) {
                    on.add(b);
                }
            }
            return all(n) < 0 ? -3 : canBreak(now.state, n) ? 0 : 1;
        });
        on = before;
        return answer;
    }

    int patch(int task, int line) {
        String t = take();
        if (task < 0 || task >= tasks.size() || line < 0 || line >= linesOf(task).length || patches.size() == 5) {
            return -100;
        }
        int wrong = wrongIn(t, 1);
        if (wrong >= 0) {
            return -1 - wrong;
        }
        patches.add(new Patch(task, line, t));
        return patches.size() - 1;
    }

    int mend(int n) {
        if (refuses(n)) {
            return -1;
        }
        int answer = fewest(patches.size(), bits -> {
            instead = new HashMap<>();
            for (int b = 0; b < patches.size(); b++) {
                Patch p = patches.get(b);
                if ((bits >> b) % 2 == 1 && p.line() < linesOf(p.task()).length) {
                    instead.put(p.task() * 100 + p.line(), p.text());
                }
            }
            return all(n) < 0 ? -3 : canBreak(now.state, n) ? 0 : 1;
        });
        instead = new HashMap<>();
        return answer;
    }

    int drop() {
        int before = patches.size();
        patches = new ArrayList<>();
        return before;
    }

    int type(int key) {
        if (key < 0 || key > 4 || typed.size() == 8) {
            return -1;
        }
        typed.add(key);
        return typed.size();
    }

    int wipe() {
        int before = typed.size();
        typed.clear();
        return before;
    }

    /** Every row of TASKS one by one; -3 by the STATES behind each STEP. */
    private final class Typed {
        final int length = typed.size();
        final List<Set<State>> behind = new ArrayList<>();
        final int leftOut;
        long lastly = 0;
        List<Long> first = null;
        boolean breaks = false;

        Typed(int leftOut) {
            this.leftOut = leftOut;
            for (int i = 0; i < length; i++) {
                behind.add(new HashSet<>());
            }
            go(now.state, 0, new ArrayList<>());
        }

        void go(State s, int i, List<Long> row) {
            if (i == length) {
                return;
            }
            int key = typed.get(i) > keys || (leftOut >> i) % 2 == 1 ? 0 : typed.get(i);
            for (int task = 0; task < tasks.size(); task++) {
                After a = stepped(s, task, key);
                row.add((long) task);
                if (breaks(a)) {
                    breaks = true;
                    if (i == length - 1) {
                        lastly++;
                        first = first == null ? new ArrayList<>(row) : first;
                    }
                } else {
                    behind.get(i).add(a.state);
                    go(a.state, i + 1, row);
                }
                row.remove(row.size() - 1);
            }
        }

        boolean tooMany() {
            int sum = 0;
            for (Set<State> s : behind) {
                sum += s.size();
            }
            return sum > 3999;
        }
    }

    int fits() {
        if (tasks.isEmpty() || typed.isEmpty()) {
            return -1;
        }
        Typed t = new Typed(0);
        if (t.tooMany()) {
            return -3;
        }
        if (t.first == null) {
            return 0;
        }
        row = t.first;
        return 1;
    }

    int many() {
        if (tasks.isEmpty() || typed.isEmpty()) {
            return -1;
        }
        Typed t = new Typed(0);
        if (t.tooMany()) {
            return -3;
        }
        row = new ArrayList<>();
        tell(row, BigInteger.valueOf(t.lastly), BigInteger.valueOf(tasks.size()).pow(typed.size()));
        return 0;
    }

    int spare() {
        if (tasks.isEmpty() || typed.isEmpty()) {
            return -1;
        }
        return fewest(typed.size(), bits -> {
            for (int i = 0; i < typed.size(); i++) {
                if ((bits >> i) % 2 == 1 && typed.get(i) == 0) {
                    return 0;
                }
            }
            Typed t = new Typed(bits);
            return t.tooMany() ? -3 : t.breaks ? 0 : 1;
        });
    }

    int like(int one, int other) {
        if (Math.min(one, other) < 0 || Math.max(one, other) >= tasks.size()) {
            return -1;
        }
        String a = tasks.get(one);
        String b = tasks.get(other);
        if (a.length() != b.length()) {
            return 0;
        }
        Map<Character, Character> forth = new HashMap<>();
        Map<Character, Character> back = new HashMap<>();
        for (int i = 0; i < a.length(); i++) {
            char c = a.charAt(i);
            char d = b.charAt(i);
            boolean slot = c >= 'a' && c <= 'h';
            if (slot != (d >= 'a' && d <= 'h') || !slot && c != d) {
                return 0;
            }
            if (slot && (forth.getOrDefault(c, d) != d || back.getOrDefault(d, c) != c)) {
                return 0;
            }
            if (slot) {
                forth.put(c, d);
                back.put(d, c);
            }
        }
        row = new ArrayList<>();
        for (char c = 'a'; c <= 'h'; c++) {
            row.add(forth.containsKey(c) ? (long) forth.get(c) - 'a' : -1L);
        }
        return 1;
    }

    int given(int house, int week, int marks) {
        if (house < 0 || house > 5 || week < 0 || week > 99 || marks < 0 || marks > 255 || cases.size() == 12) {
            return -1;
        }
        cases.add(new Case(house, week, marks));
        return cases.size() - 1;
    }

    int letter(int from, int to, int sent, int weeks) {
        if (from < 0 || from > 5 || to < 0 || to > 5 || from == to || letters.size() == 12) {
            return -1;
        }
        if (sent < 0 || sent > 99 || weeks < 0 || weeks > 50) {
            return -1;
        }
        letters.add(new Letter(from, to, sent, weeks));
        return letters.size();
    }

    /** Back along every chain of letters. */
    private void gather(int house, int week, Set<Letter> gone, Set<Integer> known) {
        for (int i = 0; i < cases.size(); i++) {
            if (cases.get(i).house() == house && cases.get(i).week() <= week) {
                known.add(i);
            }
        }
        for (Letter l : letters) {
            if (l.to() == house && l.sent() + l.weeks() <= week && gone.add(l)) {
                gather(l.from(), l.sent(), gone, known);
            }
        }
    }

    private Set<Integer> known(int house, int week) {
        Set<Integer> known = new HashSet<>();
        gather(house, week, new HashSet<>(), known);
        return known;
    }

    int knew(int house, int week) {
        if (house < 0 || house > 5 || week < 0 || week > 200) {
            return -1;
        }
        int bits = 0;
        for (int i : known(house, week)) {
            bits += 1 << i;
        }
        return bits;
    }

    int enough(int marks, int c) {
        if (marks < 0 || marks > 255 || c < 0 || c > 12) {
            return -1;
        }
        for (int week = 0; week <= 200; week++) {
            for (int house = 0; house < 6; house++) {
                int all = 0;
                int some = 0;
                for (int i : known(house, week)) {
                    all |= cases.get(i).marks();
                    some += (cases.get(i).marks() & marks) != 0 ? 1 : 0;
                }
                if ((all & marks) == marks && some >= c) {
                    row = new ArrayList<>(List.of((long) house));
                    return week;
                }
            }
        }
        return -2;
    }

    boolean keep(int i) {
        if (i < 0 || i > 2) {
            return false;
        }
        kept[i] = new Kept(now.state.copy(), keys, speeds.clone(), new HashSet<>(on));
        return true;
    }

    boolean again(int i) {
        if (i < 0 || i > 2 || kept[i] == null) {
            return false;
        }
        now.state = kept[i].state().copy();
        keys = kept[i].keys();
        System.arraycopy(kept[i].speeds(), 0, speeds, 0, 4);
        on = new HashSet<>(kept[i].on());
        return true;
    }

    int count(int what) {
        int bits = 0;
        for (int b : on) {
            bits += 1 << b;
        }
        int[] counts = {tasks.size(), keys, bolts.size(), bits, patches.size(), typed.size(), cases.size(),
            letters.size(), row.size(), text.length(), handSteps, now.fired, now.stopped, now.said, now.who};
        return what < 0 || what >= counts.length ? -1 : counts[what];
    }

    long row(int i) {
        if (i < 0 || i >= row.size()) {
            throw new NoSuchElementException();
        }
        return row.get(i);
    }
}
