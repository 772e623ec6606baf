import java.util.NoSuchElementException;
import java.util.Random;

/** Runs of calls drawn by a fixed seed, each call on TwoKeys and on Plain, the answers compared. */
public final class AgainstPlainTest {
    private static final String[] LINES = {"a=a+1", "a=h", "b=a", "a=0", "a=1", "?a", "?b=0", "?A=a", "m0:a", "m1:h+b",
        "m2:3-b", "m3:1", "j0:a", "j1:a=2", "j2:1", "j9:!a", "s4", "s5", "s05", "s99", "x", "x", "x", "b=!b", "c=c-1", "?h=1",
        "b=A+B", "d=a&b|c", "e=h>1", "a=b<c", "h=0", "?A<4", "c=-a", "a=a+a+h+1", "g=g+g+1", "?0"};
    private static final String[] ASKED = {"!F", "!(F&A=4)", "!P", "a<3", "S=0", "!(S=5&F)", "F=0|a", "W=0", "h", "!(F&!(A=h))",
        "a+b<4", "!F|b", "A=0", "B<4&a<200", "0", "1", "!(S=6)|a", "W+h<3", "c<255", "F", "P", "S=5", "a=3", "b=1&W=1", "C=4",
        "A=4&B=4", "--a-!!b", "!(S=5)&!F", "a=0"};

    /** Machines that break what must hold only behind some STEPS, and what keeps them from it. */
    private static final String[] LATE = {"a=1;a=0", "?a;x", "a=h;?a=2;x", "?h=1;b=1;x", "a=h;j4:a=2;s4;j0:1;x", "m0:h;?A=h;x",
        "?A=4;x;a=0", "m1:a;a=a+1;s5", "a=a+1;j0:a<3;x;a=0", "b=a;c=b;?c=1;x", "?b;x;b=0", "b=1;?a;b=0", "?a;m0:a;?A=a;b=a",
        "s4;s5;?h=2;x", "h=0;?h;x", "e=e+1", "b=b+b+h+1", "d=d+1;f=f+h", "a=a+1;j0:!(a=2);x", "?0;x", "?h=2;?h=1;x", "c=c+1", "a=A;b=B;x"};
    private static final String[] GUARDS = {"!F", "!F", "!(F&a)", "!(F&A=4)", "!(F&h=2)", "a<3", "!(S=5&h=1)", "!(F&b=0)", "!(F&W=0)",
        "b<2|!F", "!(A=4&B=4)", "!P", "!(F|S=6)"};
    private static final String[] SAFE = {"s4", "a=0", "?0", "?h=1", "j0:1", "x", "s5", "b=0", "m0:0", "a=1", "?b=0"};

    private final Random random;
    private final TwoKeys real = new TwoKeys();
    private final Plain plain = new Plain();
    private final StringBuilder log = new StringBuilder();
    private int wrong = 0;

    private AgainstPlainTest(long seed) {
        random = new Random(seed);
    }

    public static void main(String[] args) {
        int runs = args.length > 0 ? Integer.parseInt(args[0]) : 1500;
        long first = args.length > 1 ? Long.parseLong(args[1]) : 1;
        int wrong = 0;
        for (long seed = first; seed < first + runs && wrong < 5; seed++) {
            AgainstPlainTest test = new AgainstPlainTest(seed);
            int calls = 60 + test.random.nextInt(140);
            if (test.random.nextInt(10) > 0) {
                test.setUp();
            }
            for (int i = 0; i < calls && test.wrong == 0; i++) {
                test.drawCall();
            }
            if (test.wrong > 0) {
                wrong++;
                System.out.println("seed " + seed + ": " + test.log);
            }
        }
        System.out.println("against the plain model: " + runs + " runs, wrong " + wrong);
        System.exit(wrong == 0 ? 0 : 1);
    }

    private void setUp() {
        int tasks = 1 + random.nextInt(3);
        for (int i = 0; i < tasks; i++) {
            put(LATE[random.nextInt(LATE.length)]);
            same("task(" + i + ")", real.task(i), plain.task(i));
        }
        put(GUARDS[random.nextInt(GUARDS.length)]);
        same("must", real.must(), plain.must());
        for (int bolts = random.nextInt(4); bolts > 0; bolts--) {
            put(ASKED[random.nextInt(ASKED.length)]);
            same("bolt", real.bolt(), plain.bolt());
        }
        for (int patches = random.nextInt(6); patches > 0; patches--) {
            int task = random.nextInt(tasks);
            int line = random.nextInt(4);
            put(SAFE[random.nextInt(SAFE.length)]);
            same("patch(" + task + "," + line + ")", real.patch(task, line), plain.patch(task, line));
        }
        for (int typed = random.nextInt(7); typed > 0; typed--) {
            int key = random.nextInt(3);
            same("type(" + key + ")", real.type(key), plain.type(key));
        }
        for (int houses = random.nextInt(2) * 6; houses > 0; houses--) {
            drawHouseCall();
        }
        int k = random.nextInt(4);
        same("keys(" + k + ")", real.keys(k), plain.keys(k));
        sameAll();
    }

    private int upTo(int most) {
        return random.nextInt(most + 1);
    }

    /** Mostly 0 .. most, at times a little beside it, at times far off. */
    private int about(int most) {
        int kind = random.nextInt(30);
        if (kind == 0) {
            return random.nextInt();
        }
        return kind < 4 ? random.nextInt(most + 5) - 2 : upTo(most);
    }

    private int steps() {
        int kind = random.nextInt(10);
        return kind == 0 ? about(20) : kind < 4 ? upTo(20) : upTo(5);
    }

    private void same(String call, long got, long due) {
        log.append(call).append('=').append(got).append(' ');
        if (got != due) {
            wrong++;
            log.append("<-- due ").append(due);
        }
    }

    private void sameBoolean(String call, boolean got, boolean due) {
        same(call, got ? 1 : 0, due ? 1 : 0);
    }

    private String drawNumber() {
        return random.nextInt(4) == 0 ? "" + random.nextInt(1000) : "" + random.nextInt(4);
    }

    private String drawExpression(int depth, boolean asked) {
        int kind = random.nextInt(depth > 4 ? 3 : 9);
        switch (kind) {
            case 0: return drawNumber();
            case 1: return "" + "abchabchdefg".charAt(random.nextInt(12));
            case 2: return asked && random.nextBoolean() ? "" + "FPSW".charAt(random.nextInt(4)) : "" + "ABCD".charAt(random.nextInt(4));
            case 3: return "!" + drawExpression(depth + 1, asked);
            case 4: return "-" + drawExpression(depth + 1, asked);
            case 5: return "(" + drawExpression(depth + 1, asked) + ")";
            default: return drawExpression(depth + 1, asked) + "+-|&<>=".charAt(random.nextInt(7)) + drawExpression(depth + 1, asked);
        }
    }

    private String drawLine() {
        if (random.nextInt(3) > 0) {
            return LINES[random.nextInt(LINES.length)];
        }
        String e = drawExpression(1, false);
        switch (random.nextInt(6)) {
            case 0: return "abcdefgh".charAt(random.nextInt(8)) + "=" + e;
            case 1: return "?" + e;
            case 2: return "m" + random.nextInt(4) + ":" + e;
            case 3: return "j" + random.nextInt(12) + ":" + e;
            case 4: return "s" + random.nextInt(7);
            default: return "x";
        }
    }

    private String drawProgram() {
        int lines = random.nextInt(12) == 0 ? 1 + random.nextInt(18) : 1 + random.nextInt(4);
        StringBuilder b = new StringBuilder(drawLine());
        for (int i = 1; i < lines; i++) {
            b.append(';').append(drawLine());
        }
        return b.toString();
    }

    private String spoilt(String t) {
        int kind = random.nextInt(24);
        if (kind == 0) {
            StringBuilder b = new StringBuilder(t);
            b.insert(random.nextInt(t.length() + 1), "abhABEFPSW0123456789()!-+|&<>=;:?mjsxq\u00e9\0".charAt(random.nextInt(39)));
            return b.toString();
        }
        if (kind == 1 && !t.isEmpty()) {
            return new StringBuilder(t).deleteCharAt(random.nextInt(t.length())).toString();
        }
        if (kind == 2) {
            return t.substring(0, random.nextInt(t.length() + 1));
        }
        return t;
    }

    private void put(String drawn) {
        String t = drawn.length() > 100 ? drawn.substring(0, 100) : drawn;
        if (random.nextInt(40) > 0) {
            sameBoolean("end(0)", real.end(0), plain.end(0));
        }
        log.append("\"").append(t).append("\" ");
        for (int i = 0; i < t.length(); i += 4) {
            int v = 0;
            for (int j = 0; j < 4; j++) {
                v = v << 8 | (i + j < t.length() ? t.charAt(i + j) & 255 : 0);
            }
            same("sign", real.sign(v), plain.sign(v));
        }
        sameBoolean("end", real.end(t.length()), plain.end(t.length()));
    }

    private void putAsked() {
        put(spoilt(random.nextInt(3) > 0 ? ASKED[random.nextInt(ASKED.length)] : drawExpression(0, true)));
    }

    private void drawCall() {
        int kind = random.nextInt(100);
        if (kind < 30) {
            drawMachineCall();
        } else if (kind < 62) {
            drawRunsCall();
        } else if (kind < 76) {
            drawMendCall();
        } else if (kind < 88) {
            drawTypingCall();
        } else if (kind < 95) {
            drawHouseCall();
        } else {
            drawKeptCall();
        }
        if (wrong == 0) {
            sameAll();
        }
    }

    private void drawTask() {
        int task = random.nextInt(10) == 0 ? about(4) : Math.min(3, plain.count(0) + (random.nextInt(3) == 0 ? -1 : 0));
        put(spoilt(drawProgram()));
        same("task(" + task + ")", real.task(task), plain.task(task));
    }

    private void drawMachineCall() {
        switch (random.nextInt(12)) {
            case 0: case 1:
                if (plain.count(0) < 2 || random.nextInt(12) == 0) {
                    drawTask();
                }
                break;
            case 2:
                if (random.nextInt(4) == 0) {
                    putAsked();
                    same("must", real.must(), plain.must());
                }
                break;
            case 3:
                if (random.nextInt(4) == 0) {
                    putAsked();
                    same("bolt", real.bolt(), plain.bolt());
                }
                break;
            case 4: {
                int b = about(2);
                boolean on = random.nextBoolean();
                sameBoolean("turn(" + b + "," + on + ")", real.turn(b, on), plain.turn(b, on));
                break;
            }
            case 5: {
                int s = about(7);
                int v = random.nextInt(3) == 0 ? about(255) : about(3);
                same("slot(" + s + "," + v + ")", real.slot(s, v), plain.slot(s, v));
                break;
            }
            case 6: {
                int p = about(3);
                int v = random.nextInt(3) == 0 ? about(15) : about(3);
                same("speed(" + p + "," + v + ")", real.speed(p, v), plain.speed(p, v));
                break;
            }
            case 7: {
                int k = random.nextInt(3) == 0 ? about(4) : upTo(2);
                same("keys(" + k + ")", real.keys(k), plain.keys(k));
                break;
            }
            case 8: case 9: {
                int t = about(Math.max(0, plain.count(0) - 1));
                int k = about(plain.count(1));
                same("step(" + t + "," + k + ")", real.step(t, k), plain.step(t, k));
                break;
            }
            case 10: {
                int k = about(3);
                int n = about(20);
                int f = random.nextInt(4) == 0 ? random.nextInt() : about(12) + 256 * upTo(2);
                int s = random.nextInt(8) == 0 ? random.nextInt() : about(3) + 256 * upTo(1);
                same("steps(" + k + "," + n + "," + f + "," + s + ")", real.steps(k, n, f, s), plain.steps(k, n, f, s));
                break;
            }
            default:
                putAsked();
                same("ask", real.ask(), plain.ask());
        }
    }

    private void drawRunsCall() {
        int n = steps();
        switch (random.nextInt(11)) {
            case 0: same("all(" + n + ")", real.all(n), plain.all(n)); break;
            case 1: same("never(" + n + ")", real.never(n), plain.never(n)); break;
            case 2:
                putAsked();
                same("reach(" + n + ")", real.reach(n), plain.reach(n));
                break;
            case 3: same("stuck(" + n + ")", real.stuck(n), plain.stuck(n)); break;
            case 4: same("runs(" + n + ")", real.runs(n), plain.runs(n)); break;
            case 5: case 6: {
                int h = about(1);
                int k = about(4);
                int v = about(9);
                same("weight(" + h + "," + k + "," + v + ")", real.weight(h, k, v), plain.weight(h, k, v));
                break;
            }
            case 7: {
                int h = about(1);
                same("odds(" + h + "," + n + ")", real.odds(h, n), plain.odds(h, n));
                break;
            }
            case 8: same("quick(" + n + ")", real.quick(n), plain.quick(n)); break;
            case 9:
                if (random.nextInt(4) == 0) {
                    int s = about(7);
                    int m = about(3);
                    same("round(" + s + "," + m + ")", real.round(s, m), plain.round(s, m));
                }
                break;
            default: {
                int s = random.nextBoolean() ? 4 + upTo(1) : about(99);
                same("means(" + s + "," + n + ")", real.means(s, n), plain.means(s, n));
            }
        }
    }

    private void drawMendCall() {
        int n = steps();
        switch (random.nextInt(6)) {
            case 0: {
                int b = about(2);
                same("hid(" + b + "," + n + ")", real.hid(b, n), plain.hid(b, n));
                break;
            }
            case 1: same("iron(" + n + ")", real.iron(n), plain.iron(n)); break;
            case 2: case 3: {
                int t = about(Math.max(0, plain.count(0) - 1));
                int l = about(3);
                put(spoilt(drawLine()));
                same("patch(" + t + "," + l + ")", real.patch(t, l), plain.patch(t, l));
                break;
            }
            case 4: same("mend(" + n + ")", real.mend(n), plain.mend(n)); break;
            default:
                if (random.nextInt(4) == 0) {
                    same("drop", real.drop(), plain.drop());
                }
        }
    }

    private void drawTypingCall() {
        switch (random.nextInt(7)) {
            case 0: case 1: case 2: {
                int k = about(2);
                same("type(" + k + ")", real.type(k), plain.type(k));
                break;
            }
            case 3:
                if (random.nextInt(3) == 0) {
                    same("wipe", real.wipe(), plain.wipe());
                }
                break;
            case 4: same("fits", real.fits(), plain.fits()); break;
            case 5: same("many", real.many(), plain.many()); break;
            default:
                if (Math.pow(plain.count(0), plain.count(5)) < 300 || random.nextInt(20) == 0) {
                    same("spare", real.spare(), plain.spare());
                }
        }
    }

    private void drawHouseCall() {
        switch (random.nextInt(9)) {
            case 0: {
                int a = about(5);
                int b = random.nextBoolean() ? about(9) : about(99);
                int c = random.nextBoolean() ? 1 << upTo(3) : about(255);
                same("given(" + a + "," + b + "," + c + ")", real.given(a, b, c), plain.given(a, b, c));
                break;
            }
            case 1: case 2: case 3: {
                int a = about(3);
                int b = about(3);
                int c = random.nextInt(3) > 0 ? about(9) : about(99);
                int d = random.nextInt(3) > 0 ? about(2) : about(50);
                same("letter(" + a + "," + b + "," + c + "," + d + ")", real.letter(a, b, c, d), plain.letter(a, b, c, d));
                break;
            }
            case 4: case 5: case 6: {
                int a = about(5);
                int b = random.nextBoolean() ? about(12) : about(200);
                same("knew(" + a + "," + b + ")", real.knew(a, b), plain.knew(a, b));
                break;
            }
            case 7: {
                int a = random.nextBoolean() ? about(15) : about(255);
                int b = random.nextBoolean() ? about(3) : about(12);
                same("enough(" + a + "," + b + ")", real.enough(a, b), plain.enough(a, b));
                break;
            }
            default: {
                int a = about(Math.max(0, plain.count(0) - 1));
                int b = about(Math.max(0, plain.count(0) - 1));
                same("like(" + a + "," + b + ")", real.like(a, b), plain.like(a, b));
            }
        }
    }

    private void drawKeptCall() {
        int i = about(2);
        if (random.nextBoolean()) {
            sameBoolean("keep(" + i + ")", real.keep(i), plain.keep(i));
        } else {
            sameBoolean("again(" + i + ")", real.again(i), plain.again(i));
        }
    }

    /** Looks that change nothing: what an object holds has to agree behind every call. */
    private void sameAll() {
        int length = log.length();
        for (int i = -1; i < 16; i++) {
            same("count(" + i + ")", real.count(i), plain.count(i));
        }
        for (int i = 0; i < 24; i++) {
            same("at(" + i + ")", real.at(i), plain.at(i));
        }
        for (int i = 0; i < plain.count(8); i++) {
            same("row(" + i + ")", real.row(i), plain.row(i));
        }
        int beyond = plain.count(8) + upTo(1);
        boolean thrown = false;
        try {
            real.row(beyond);
        } catch (NoSuchElementException e) {
            thrown = true;
        }
        sameBoolean("row beyond", thrown, true);
        if (wrong == 0) {
            log.setLength(length);
        }
    }
}
