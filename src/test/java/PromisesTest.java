import java.util.Arrays;
import java.util.NoSuchElementException;

/** At least one test for each promise of the document: ordinary inputs, edges and wrong inputs. */
public final class PromisesTest {
    private static final int MIN = Integer.MIN_VALUE;
    private static final int MAX = Integer.MAX_VALUE;

    private static int checks = 0;
    private static int wrong = 0;
    private static int promise = 0;

    private static void due(String what, long got, long want) {
        checks++;
        if (got != want) {
            wrong++;
            System.out.println("promise " + promise + ": " + what + " answered " + got + ", due is " + want);
        }
    }

    private static void yes(String what, boolean got) {
        due(what, got ? 1 : 0, 1);
    }

    private static void no(String what, boolean got) {
        due(what, got ? 1 : 0, 0);
    }

    private static void rowIs(TwoKeys x, long... want) {
        long[] got = new long[Math.max(0, x.count(8))];
        for (int i = 0; i < got.length; i++) {
            got[i] = x.row(i);
        }
        checks++;
        if (!Arrays.equals(got, want)) {
            wrong++;
            System.out.println("promise " + promise + ": the row is " + Arrays.toString(got) + ", due is " + Arrays.toString(want));
        }
    }

    /** Puts THE TEXT, whatever it was. */
    private static TwoKeys put(TwoKeys x, String t) {
        x.end(0);
        for (int i = 0; i < t.length(); i += 4) {
            int v = 0;
            for (int j = 0; j < 4; j++) {
                v = v << 8 | (i + j < t.length() ? t.charAt(i + j) : 0);
            }
            x.sign(v);
        }
        x.end(t.length());
        return x;
    }

    private static int task(TwoKeys x, int task, String program) {
        return put(x, program).task(task);
    }

    private static int must(TwoKeys x, String t) {
        return put(x, t).must();
    }

    private static int bolt(TwoKeys x, String t) {
        return put(x, t).bolt();
    }

    private static int patch(TwoKeys x, int task, int line, String t) {
        return put(x, t).patch(task, line);
    }

    private static long value(TwoKeys x, String t) {
        due("ask of " + t, put(x, t).ask(), 0);
        due("numbers of the row", x.count(8), 1);
        return x.row(0);
    }

    private static TwoKeys with(int keys, String must, String... programs) {
        TwoKeys x = new TwoKeys();
        x.keys(keys);
        for (int i = 0; i < programs.length; i++) {
            task(x, i, programs[i]);
        }
        must(x, must);
        return x;
    }

    private static String times(String t, int n) {
        return t.repeat(n);
    }

    public static void main(String[] args) {
        Runnable[] tests = {PromisesTest::newObject, PromisesTest::signs, PromisesTest::ends, PromisesTest::tasks,
            PromisesTest::musts, PromisesTest::boltsTold, PromisesTest::turns, PromisesTest::slots, PromisesTest::speeds,
            PromisesTest::keysTold, PromisesTest::stepsOne, PromisesTest::stepsMany, PromisesTest::looks, PromisesTest::asks,
            PromisesTest::alls, PromisesTest::nevers, PromisesTest::reaches, PromisesTest::stucks, PromisesTest::runsCounted,
            PromisesTest::weightsTold, PromisesTest::oddsTold, PromisesTest::quicks, PromisesTest::rounds,
            PromisesTest::meanings, PromisesTest::hids, PromisesTest::irons, PromisesTest::patchesTold, PromisesTest::mends,
            PromisesTest::drops, PromisesTest::types, PromisesTest::wipes, PromisesTest::fitting, PromisesTest::manies,
            PromisesTest::spares, PromisesTest::likes, PromisesTest::givens, PromisesTest::lettersTold, PromisesTest::knews,
            PromisesTest::enoughs, PromisesTest::keeps, PromisesTest::agains, PromisesTest::counts, PromisesTest::rows};
        for (Runnable test : tests) {
            promise++;
            test.run();
        }
        System.out.println("promises 1 to " + promise + ": " + checks + " checks, wrong " + wrong);
        System.exit(wrong == 0 && promise == 43 ? 0 : 1);
    }

    // ---- the machine

    private static void newObject() {
        TwoKeys x = new TwoKeys();
        due("NONE", TwoKeys.NONE, -1);
        int[] counts = {0, 2, 0, 0, 0, 0, 0, 0, 0, 0, 0, 0, 0, 0, 0};
        for (int i = 0; i < counts.length; i++) {
            due("count(" + i + ")", x.count(i), counts[i]);
        }
        for (int i = 0; i < 24; i++) {
            due("at(" + i + ")", x.at(i), i < 20 ? 0 : -1);
        }
        for (int part = 0; part < 4; part++) {
            due("speed", x.speed(part, 3), 3);
        }
        for (int key = 0; key < 5; key++) {
            due("weight", x.weight(0, key, 1), 1);
            due("weight", x.weight(1, key, 1), 1);
        }
        due("value", value(x, "F+P+S+W+a+h+A+D"), 0);
    }

    private static void signs() {
        TwoKeys x = new TwoKeys();
        for (int i = 1; i <= 25; i++) {
            due("sign", x.sign(0x61626364), 4 * i);
        }
        due("sign beyond 100", x.sign(0), -1);
        due("length stays", x.count(9), 100);
        x.end(97);
        due("sign of 97", x.sign(0), -1);
        x.end(96);
        due("sign of 96", x.sign(0), 100);
        x.end(0);
        due("highest byte first", x.sign(0x613D37FF), 4);
        due("a sign of 255 can't stand", x.task(0), -4);
        x.sign(0x613D3720);
        x.end(3);
        due("a=7", x.task(0), 1);
        x.step(0, 0);
        due("a", x.at(0), 7);
    }

    private static void ends() {
        TwoKeys x = new TwoKeys();
        no("end(-1)", x.end(-1));
        no("end(MIN)", x.end(MIN));
        no("end(1) of none", x.end(1));
        yes("end(0) of none", x.end(0));
        x.sign(0x78787878);
        no("end(5)", x.end(5));
        yes("end(4)", x.end(4));
        due("all stay", x.count(9), 4);
        yes("end(1)", x.end(1));
        due("one stays", x.count(9), 1);
        due("x", x.task(0), 1);
    }

    private static void tasks() {
        TwoKeys x = new TwoKeys();
        due("no such task", task(x, 1, "x"), -100);
        due("the text is empty then", x.count(9), 0);
        due("asked first", task(x, -1, "q"), -100);
        due("MAX", task(x, MAX, "x"), -100);
        due("MIN", task(x, MIN, "x"), -100);
        String[] bad = {"", "q", "a", "a=", "a:1", "a=1;", "a=1 ", "a=i", "a=E", "a=F", "a=P", "a=S", "a=W", "?", "?)", "m", "m4", "m0",
            "m0=", "m0:", "j", "j:", "j1", "j12", "j123", "j1:", "s", "sx", "s1a", "s123", "xx", "x1", "x;;", "a=1234", "a=1<2<3", "a=1=2+3>4",
            "a=()", "a=(1", "a=1)", "a=((((((1))))))", "a=1+", "a=+1", "a=1!", "a=!", "a=a b", "a=(1<2<3)", "a=1||2", "A=1", "a==1"};
        int[] place = {0, 0, 1, 2, 1, 4, 3, 2, 2, 2, 2, 2, 2, 1, 1, 1, 1, 2, 2, 3, 1, 1, 2, 3, 3, 3, 1, 1, 2, 3, 1, 1, 2, 5, 5, 7, 3, 4, 3, 7,
            4, 2, 3, 3, 3, 6, 4, 0, 2};
        for (int i = 0; i < bad.length; i++) {
            due("task of " + bad[i], task(x, 0, bad[i]), -1 - place[i]);
            due("the text is empty then", x.count(9), 0);
        }
        due("nothing has changed", x.count(0), 0);
        // an object answers 512 calls
        x = new TwoKeys();
        String[] good = {"x", "s0", "s99", "j0:1", "j99:1", "m3:0", "?0", "a=1<2", "a=(1<2)<3", "a=1<2&2<3", "a=(((((1)))))",
            "a=((1))+(((2)))", "a=!!--!1", "a=1--1", "a=999", "h=A+B+C+D", "a=1;b=2;?c", "a=1=2|3", "a=(1=2)=3"};
        for (String t : good) {
            due("task of " + t, task(x, 0, t), t.split(";").length);
        }
        due("16 lines", task(x, 1, times("x;", 15) + "x"), 16);
        due("17 lines", task(x, 1, times("x;", 16) + "x"), -32);
        due("17 lines, the last one wrong", task(x, 1, times("x;", 16) + "q"), -32);
        due("60 signs", task(x, 1, "a=12" + times("+1", 28)), 1);
        due("61 signs", task(x, 1, "a=123" + times("+1", 28)), -61);
        due("61 signs, the 60th can go on", task(x, 1, "a=12" + times("+1", 27) + "+-1"), -61);
        due("60 signs and no end", task(x, 1, "a=12" + times("+1", 27) + "+-"), -61);
        due("61 signs, the 60th wrong", task(x, 1, "a=12" + times("+1", 27) + "++1"), -60);
        due("100 signs", task(x, 1, "a=" + times("!", 98)), -61);
        x.step(1, 0);
        x.step(0, 0);
        due("line of 1", x.at(21), 0);
        due("in place", task(x, 1, "a=1;b=2;c=3"), 3);
        x.step(1, 0);
        x.step(1, 0);
        due("line", x.at(21), 2);
        due("a wrong one in place", task(x, 1, "q"), -1);
        due("line stays", x.at(21), 2);
        due("in place at line 0", task(x, 1, "a=1;b=2;c=3"), 3);
        due("line is 0", x.at(21), 0);
        due("third", task(x, 2, "x"), 1);
        due("fourth", task(x, 3, "x"), 1);
        due("no fifth", task(x, 4, "x"), -100);
        due("four", x.count(0), 4);
    }

    private static void musts() {
        TwoKeys x = with(0, "0", "x");
        due("breaks", x.never(1), 1);
        due("a wrong one", must(x, "F+"), -3);
        due("the text is empty then", x.count(9), 0);
        due("the old one stays", x.never(1), 1);
        due("none", must(x, ""), 0);
        due("none breaks", x.never(1), -2);
        due("ends too early", must(x, "!"), -2);
        due("no sign such", must(x, "E"), -1);
        due("61 signs", must(x, "F" + times("+W", 30)), -61);
        due("60 signs", must(x, "!F" + times("+W", 29)), 0);
        due("P in it", must(x, "!P"), 0);
        due("P breaks not", x.never(3), -2);
        due("a line can't stand", must(x, "1;1"), -2);
    }

    private static void boltsTold() {
        TwoKeys x = with(0, "!F", "x");
        due("a wrong one", bolt(x, ""), -1);
        due("a wrong one", bolt(x, "1("), -2);
        due("none yet", x.count(2), 0);
        due("first", bolt(x, "a"), 0);
        due("on", x.count(3), 1);
        due("second", bolt(x, "F|P|S|W=0"), 1);
        due("third", bolt(x, "b=0"), 2);
        due("on", x.count(3), 7);
        due("no fourth, asked first", bolt(x, "("), -100);
        due("the text is empty then", x.count(9), 0);
        due("stopped", x.step(0, 0), 2);
        x.slot(0, 1);
        due("fired: bolts see no F, P of the step ahead", x.step(0, 0), 1);
        x.slot(1, 1);
        due("stopped", x.step(0, 0), 2);
        TwoKeys y = with(2, "", "?h;x", "x");
        bolt(y, "W=0&h=2");
        y.step(0, 1);
        due("the key is typed ahead", y.step(0, 2), 1);
        due("W is who fires", y.step(1, 2), 2);
        TwoKeys z = with(0, "", "m0:1", "x");
        bolt(z, "A=4");
        z.step(0, 0);
        z.step(0, 0);
        z.step(0, 0);
        due("one tenth left", z.at(16), 1);
        due("parts move behind the line", z.step(1, 0), 1);
        due("there then", z.at(8), 1);
    }

    private static void turns() {
        TwoKeys x = with(0, "", "x");
        no("none such", x.turn(0, true));
        bolt(x, "0");
        bolt(x, "0");
        no("none such", x.turn(2, true));
        no("none such", x.turn(-1, false));
        yes("off", x.turn(0, false));
        due("on", x.count(3), 2);
        due("stopped by the other", x.step(0, 0), 2);
        yes("off again", x.turn(0, false));
        yes("off", x.turn(1, false));
        due("fired", x.step(0, 0), 1);
        yes("on", x.turn(0, true));
        due("on", x.count(3), 1);
    }

    private static void slots() {
        TwoKeys x = new TwoKeys();
        due("slot(-1)", x.slot(-1, 0), -1);
        due("slot(8)", x.slot(8, 0), -1);
        due("v -1", x.slot(0, -1), -1);
        due("v 256", x.slot(0, 256), -1);
        due("slot(MIN)", x.slot(MIN, MAX), -1);
        for (int i = 0; i < 8; i++) {
            due("was", x.slot(i, 255 - i), 0);
        }
        for (int i = 0; i < 8; i++) {
            due("at", x.at(i), 255 - i);
            due("was", x.slot(i, 0), 255 - i);
        }
    }

    private static void speeds() {
        TwoKeys x = with(0, "", "m1:2;?0");
        due("part -1", x.speed(-1, 1), -1);
        due("part 4", x.speed(4, 1), -1);
        due("v -1", x.speed(0, -1), -1);
        due("v 16", x.speed(0, 16), -1);
        due("was", x.speed(1, 15), 3);
        x.step(0, 0);
        due("tenths", x.at(17), 15);
        due("was", x.speed(1, 1), 15);
        due("one that moves keeps its tenths", x.at(17), 15);
        x.step(0, 0);
        due("one less", x.at(17), 14);
        TwoKeys y = with(0, "", "m1:3");
        y.speed(1, 0);
        y.step(0, 0);
        due("there at once", y.at(9), 3);
        due("no tenths", y.at(17), 0);
        y.speed(1, 9);
        y.step(0, 0);
        due("there already", y.at(17), 0);
    }

    private static void keysTold() {
        TwoKeys x = with(2, "", "a=h");
        due("-1", x.keys(-1), -1);
        due("5", x.keys(5), -1);
        due("was", x.keys(4), 2);
        due("key 4", x.step(0, 4), 0);
        due("was", x.keys(0), 4);
        due("key 1", x.step(0, 1), -1);
        due("no key", x.step(0, 0), 0);
        due("numbers go by keys", x.steps(2, 1, 1, 0), 0);
        due("h stays", x.at(7), 4);
    }

    private static void stepsOne() {
        TwoKeys x = with(2, "", "s0;s97;x;a=300;?a=44;m2:7;j7:0;j99:1;b=1", "s5");
        due("no task", x.step(2, 0), -1);
        due("no task", x.step(-1, 0), -1);
        due("no key", x.step(0, 3), -1);
        due("no key", x.step(0, -1), -1);
        due("nothing was done", x.count(10), 0);
        due("said 0", x.step(0, 0), 3);
        due("said 97", x.step(0, 0), 100);
        due("fired", x.step(0, 0), 1);
        due("set", x.step(0, 1), 0);
        due("lowest 8 bits", x.at(0), 44);
        due("h", x.at(7), 1);
        due("goes on", x.step(0, 0), 0);
        due("line", x.at(20), 5);
        x.step(0, 0);
        due("moving", x.at(10), 4);
        due("to lowest 2 bits", x.at(14), 3);
        x.step(0, 0);
        due("not jumped", x.at(20), 7);
        x.step(0, 0);
        due("jumped to 0", x.at(20), 0);
        due("the other task", x.step(1, 2), 8);
        due("W", x.count(14), 1);
        due("S", x.count(13), 6);
        TwoKeys y = with(0, "", "?0", "m0:1;m0:2", "b=200-a;a=0-1");
        y.step(0, 0);
        due("stays", y.at(20), 0);
        y.step(1, 0);
        y.step(1, 0);
        due("goes to what it went to", y.at(12), 1);
        due("a tenth less", y.at(16), 2);
        due("behind the last line 0", y.at(21), 0);
        y.step(2, 0);
        y.step(2, 0);
        due("goes round", y.at(0), 255);
        due("there", y.at(8), 1);
        due("steps", y.count(10), 5);
    }

    private static void stepsMany() {
        TwoKeys x = with(2, "", "a=a+1", "b=b+1");
        due("another kind", x.steps(4, 0, 0, 0), -1);
        due("another kind", x.steps(-1, -1, 0, 0), -1);
        due("above 20", x.steps(3, 21, 0, 0), -1);
        due("above 20", x.steps(2, MAX, 0, 0), -1);
        due("missing", x.steps(3, -1, 0, 0), -3);
        due("below 0", x.steps(2, -1, 0, 0), -2);
        due("below 0", x.steps(0, MIN, 0, 0), -2);
        due("none", x.steps(0, 0, 0, 0), 0);
        due("all numbers", x.steps(2, 7, 0, 1), 6);
        due("a", x.at(0), 3);
        due("b", x.at(1), 3);
        due("h", x.at(7), 2);
        due("bytes go round", x.steps(0, 20, 256, 256), 20);
        due("bytes with their sign", x.steps(0, 2, 255, 0), 0);
        due("shorts", x.steps(1, 3, 65536, 65536), 3);
        due("shorts with their sign", x.steps(1, 3, 0, 65535), 1);
        due("ints", x.steps(2, 3, 256, 0), 0);
        due("ints go round", x.steps(2, 3, 5, MIN), 1);
        due("till the first", x.steps(2, 3, 5, -3), 2);
        due("steps", x.count(10), 6 + 20 + 3 + 1 + 1 + 2);
        due("no tasks", new TwoKeys().steps(2, 3, 0, 0), 0);
    }

    private static void looks() {
        TwoKeys x = with(0, "", "a=1;m3:2;?0", "?0");
        for (int what : new int[] {-1, 24, MIN, MAX}) {
            boolean thrown = false;
            try {
                x.at(what);
            } catch (NoSuchElementException e) {
                thrown = true;
            }
            yes("at(" + what + ") throws", thrown);
        }
        x.steps(2, 2, 0, 0);
        due("a", x.at(0), 1);
        due("D", x.at(11), 4);
        due("where D comes to", x.at(15), 2);
        due("tenths of D", x.at(19), 3);
        due("where A comes to", x.at(12), 0);
        due("line of 0", x.at(20), 2);
        due("line of 1", x.at(21), 0);
        due("line of 2", x.at(22), -1);
        x.steps(2, 3, 0, 0);
        due("D is there", x.at(11), 2);
    }

    private static void asks() {
        TwoKeys x = with(2, "", "s7;x", "m0:3");
        x.slot(0, 5);
        x.slot(1, 2);
        String[] texts = {"7", "a", "a+b", "a-b-1", "a-(b-1)", "-a", "!a", "!!a", "!0", "--a", "-!c", "a|b", "a&b", "a&c", "c|0", "a<b", "a>b",
            "b=2", "b>2", "b<2", "b=2=0|1", "a+1=6&b", "1|0&0", "0&0|1", "1+1<1+2", "!a+1", "-a<0", "!(a=5)", "999+999", "A", "(((((a)))))", "a=5&b=2|c", "W"};
        long[] values = {7, 5, 7, 2, 4, -5, 0, 1, 1, 5, -1, 1, 1, 0, 0, 0, 1, 1, 0, 0, MIN, 1, 1, 1, 1, 1, 1, 0, 1998, 0, 5, 1, 0};
        for (int i = 0; i < texts.length; i++) {
            if (values[i] == MIN) {
                due("ask of " + texts[i], put(x, texts[i]).ask(), -4);
            } else {
                due("value of " + texts[i], value(x, texts[i]), values[i]);
            }
        }
        due("no text", x.ask(), -1);
        due("the row stays", x.row(0), 0);
        due("more than 60", put(x, times("1+", 30) + "1").ask(), -61);
        due("the text is empty then", x.count(9), 0);
        x.step(0, 0);
        due("S", value(x, "S"), 8);
        x.step(0, 0);
        due("F", value(x, "F"), 1);
        due("S is 0 then", value(x, "S"), 0);
        x.step(1, 2);
        due("moving", value(x, "A"), 4);
        due("W", value(x, "W"), 1);
        due("F, P", value(x, "F+P"), 0);
        bolt(x, "0");
        x.step(0, 0);
        x.step(0, 0);
        due("P", value(x, "P"), 1);
    }

    // ---- all runs

    private static void alls() {
        TwoKeys x = new TwoKeys();
        due("no tasks", x.all(0), -1);
        x = with(0, "", "a=a+1", "b=b+1", "c=c+1", "d=d+1");
        due("-1", x.all(-1), -1);
        due("21", x.all(21), -1);
        due("0", x.all(0), 1);
        due("1", x.all(1), 5);
        due("15", x.all(15), 3876);
        due("16", x.all(16), -3);
        TwoKeys y = with(0, "", "b=0;b=0;b=0");
        due("the line is of the state", y.all(20), 3);
        TwoKeys z = with(0, "", "m0:1;?0");
        due("tenths are of the state", z.all(20), 5);
        TwoKeys k = with(4, "", "?0");
        due("h is of the state", k.all(1), 5);
        due("h is of the state", k.all(20), 5);
        TwoKeys w = with(0, "", "s1");
        due("what was said is not", w.all(20), 1);
        TwoKeys e = with(0, "", capped('a', 7), capped('b', 8), capped('c', 13), capped('d', 14));
        due("4000", e.all(16), 4000);
        task(e, 0, capped('a', 7) + "+(a=7&b=8&c+d=0)");
        due("4001", e.all(16), -3);
        due("not in 15", e.all(15) > 0 ? 1 : 0, 1);
    }

    /** A line that counts up to a number and stays there. */
    private static String capped(char slot, int most) {
        return slot + "=" + slot + "+(" + slot + "<" + most + ")";
    }

    private static void nevers() {
        TwoKeys x = with(2, "!F", "a=h;?a=2;x", "x;?0");
        due("-1", x.never(-1), -1);
        due("21", x.never(21), -1);
        due("no tasks", new TwoKeys().never(1), -1);
        due("0 steps break nothing", x.never(0), -2);
        due("the first by numbers", x.never(20), 1);
        rowIs(x, 3);
        task(x, 1, "?0");
        due("in two it holds", x.never(2), -2);
        rowIs(x, 3);
        due("three", x.never(3), 3);
        rowIs(x, 2, 0, 0);
        must(x, "a<2");
        due("one", x.never(3), 1);
        rowIs(x, 2);
        must(x, "!(A=4)");
        due("never", x.never(20), -2);
        TwoKeys y = with(0, "a<1", "a=a+1", "b=b+1", "c=c+1", "d=d+1");
        due("breaks", y.never(15), 1);
        due("too many, though it breaks", y.never(16), -3);
        rowIs(y, 0);
        due("nothing was done", y.at(0), 0);
    }

    private static void reaches() {
        TwoKeys x = with(2, "", "a=h;b=a+a", "s3");
        due("no tasks", put(new TwoKeys(), "1").reach(0), -1);
        due("NONE ahead of a wrong text", put(x, "(").reach(21), -1);
        due("the text is empty then", x.count(9), 0);
        due("a wrong text", put(x, "a=").reach(20), -102);
        due("the text is empty then", x.count(9), 0);
        due("no text", x.reach(3), -100);
        due("61 signs", put(x, times("0+", 30) + "0").reach(3), -160);
        due("as it is", put(x, "a=0").reach(3), 0);
        rowIs(x);
        due("b is 4", put(x, "b=4").reach(20), 2);
        rowIs(x, 2, 0);
        due("b is 4 with key 1", put(x, "b=4&h=1").reach(20), 2);
        rowIs(x, 2, 1);
        due("in one", put(x, "b=4").reach(1), -2);
        rowIs(x, 2, 1);
        due("said", put(x, "S=4&h=1").reach(3), 1);
        rowIs(x, 4);
        x.step(1, 2);
        due("what was said last counts now", put(x, "S=4&h=2&W").reach(0), 0);
        due("but not behind a run of others", put(x, "S=4&W=0").reach(5), -2);
        TwoKeys y = with(0, "", "a=a+1", "b=b+1", "c=c+1", "d=d+1");
        due("too many, though it is so now", put(y, "a=0").reach(16), -3);
        rowIs(y);
        due("in two", put(y, "b=2").reach(3), 2);
        rowIs(y, 1, 1);
        due("the first by numbers", put(y, "a+b+c+d=1").reach(3), 1);
        rowIs(y, 0);
        due("as it is", put(y, "a=0").reach(3), 0);
        rowIs(y);
    }

    private static void stucks() {
        TwoKeys x = with(0, "", "?a", "b=1;?0");
        due("no tasks", new TwoKeys().stuck(1), -1);
        due("21", x.stuck(21), -1);
        due("0", x.stuck(0), -2);
        due("fewer than 1", x.stuck(1), -2);
        due("fewer than 2", x.stuck(2), 1);
        rowIs(x, 1);
        x.step(1, 0);
        due("now", x.stuck(1), 0);
        rowIs(x);
        x.keys(1);
        due("keys change h", x.stuck(1), -2);
        due("with key 1 typed it stays", x.stuck(2), 1);
        rowIs(x, 1);
        x.keys(2);
        due("two keys", x.stuck(20), -2);
        TwoKeys w = with(0, "", "a=a+1", "b=b+1", "c=c+1", "d=d+1");
        due("too many states", w.stuck(16), -3);
        due("none", w.stuck(15), -2);
        TwoKeys y = with(0, "", "m0:1;?0");
        due("moving is not stuck", y.stuck(20), 4);
        rowIs(y, 0, 0, 0, 0);
    }

    private static void runsCounted() {
        TwoKeys x = with(2, "!F", "a=h;j3:a=2;j0:1;x");
        due("no tasks", new TwoKeys().runs(0), -1);
        due("-1", x.runs(-1), -1);
        due("0", x.runs(0), 0);
        rowIs(x, 0, 1);
        due("2", x.runs(2), 0);
        rowIs(x, 0, 9);
        due("3", x.runs(3), 0);
        rowIs(x, 9, 27);
        due("20", x.runs(20), 0);
        rowIs(x, 3486784401L - withoutBreak(20), 3486784401L);
        TwoKeys y = with(3, "a<1", "a=h", "?0", "?0", "x");
        due("16 to the 9th", y.runs(9), 0);
        due("all", y.row(1), 68719476736L);
        due("16 to the 10th is too much", y.runs(10), -1);
        TwoKeys z = with(4, "", "?0", "?0");
        due("10 to the 12th", z.runs(12), 0);
        rowIs(z, 0, 1000000000000L);
        due("10 to the 13th", z.runs(13), -1);
        rowIs(z, 0, 1000000000000L);
        TwoKeys w = with(0, "a<1", "a=a+1", "b=b+1", "c=c+1", "d=d+1");
        due("too many states", w.runs(16), -3);
        due("too many runs first", w.runs(20), -1);
    }

    /** Runs of "a=h;j3:a=2;j0:1;x" with two keys in which it never fires: three lines round, a not 2. */
    private static long withoutBreak(int n) {
        // by line (0: a=h, 1: j3, 2: j0) and h; a is h as line 0 was done
        long[][] ways = new long[4][9];
        ways[0][0] = 1;
        for (int i = 0; i < n; i++) {
            long[][] later = new long[4][9];
            for (int line = 0; line < 3; line++) {
                for (int s = 0; s < 9; s++) {
                    for (int key = 0; key < 3; key++) {
                        int h = key == 0 ? s % 3 : key;
                        int a = line == 0 ? h : s / 3;
                        int next = line == 1 && a == 2 ? 3 : (line + 1) % 3;
                        later[next][a * 3 + h] += ways[line][s];
                    }
                }
            }
            ways = later;
            if (i == n - 1) {
                break;
            }
            // a task at line 3 fires in its next step, whatever is typed
            Arrays.fill(ways[3], 0);
        }
        long sum = 0;
        for (long[] row : ways) {
            for (long v : row) {
                sum += v;
            }
        }
        return sum;
    }

    private static void weightsTold() {
        TwoKeys x = new TwoKeys();
        int[][] bad = {{-1, 0, 0}, {2, 0, 0}, {0, -1, 0}, {0, 5, 0}, {0, 0, -1}, {0, 0, 10}, {MIN, MIN, MIN}};
        for (int[] b : bad) {
            due("weight " + Arrays.toString(b), x.weight(b[0], b[1], b[2]), -1);
        }
        due("was 1", x.weight(0, 4, 9), 1);
        due("was 9", x.weight(0, 4, 0), 9);
        due("the other hand's is its own", x.weight(1, 4, 2), 1);
        due("the other key's is its own", x.weight(0, 3, 2), 1);
    }

    private static void oddsTold() {
        TwoKeys x = with(2, "h<2", "?0", "?0");
        due("no tasks", new TwoKeys().odds(0, 0), -1);
        due("no hand", x.odds(2, 1), -1);
        due("no hand", x.odds(-1, 1), -1);
        due("21", x.odds(0, 21), -1);
        due("even", x.odds(0, 1), 0);
        rowIs(x, 1, 3);
        x.weight(0, 0, 3);
        x.weight(0, 1, 3);
        x.weight(0, 2, 2);
        due("2 of 8", x.odds(0, 1), 0);
        rowIs(x, 1, 4);
        due("1 - 9/16", x.odds(0, 2), 0);
        rowIs(x, 7, 16);
        due("the other hand", x.odds(1, 2), 0);
        rowIs(x, 5, 9);
        due("16 to the 9th", x.odds(0, 9), 0);
        due("lower", x.row(1), 262144);
        due("16 to the 10th is too great", x.odds(0, 10), -1);
        x.weight(0, 2, 0);
        due("0 by 1", x.odds(0, 5), 0);
        rowIs(x, 0, 1);
        x.weight(0, 0, 0);
        x.weight(0, 1, 0);
        due("all are 0", x.odds(0, 5), -2);
        due("all are 0, n 0", x.odds(0, 0), -2);
        rowIs(x, 0, 1);
        x.keys(3);
        due("key 3 has a weight", x.odds(0, 2), 0);
        rowIs(x, 1, 1);
        due("n 0", x.odds(0, 0), 0);
        rowIs(x, 0, 1);
        TwoKeys z = with(4, "", "?0", "?0");
        due("10 to the 12th", z.odds(0, 12), 0);
        due("10 to the 13th", z.odds(0, 13), -1);
        TwoKeys y = with(0, "", "a=a+1", "b=b+1", "c=c+1", "d=d+1");
        due("too many states", y.odds(0, 16), -3);
        y.weight(0, 0, 0);
        due("whatever else but NONE", y.odds(0, 16), -3);
        due("no states too many", y.odds(0, 15), -2);
    }

    private static void quicks() {
        TwoKeys x = with(2, "h<2", "?0");
        due("no tasks", new TwoKeys().quick(0), -1);
        due("21", x.quick(21), -1);
        due("as likely", x.quick(5), 2);
        x.weight(1, 2, 2);
        due("hand 1", x.quick(5), 1);
        x.weight(0, 2, 3);
        due("hand 0", x.quick(5), 0);
        due("n 0", x.quick(0), 2);
        x.weight(1, 0, 9);
        x.weight(1, 1, 9);
        x.weight(1, 2, 9);
        due("too great of either", x.quick(9), -1);
        for (int key = 0; key < 3; key++) {
            x.weight(0, key, 0);
        }
        due("NONE first", x.quick(9), -1);
        due("-2 of either", x.quick(3), -2);
        // odds that differ by one in 10 to the 12th and whose products go beyond a long
        TwoKeys y = with(4, "h<4", "?0");
        for (int key = 0; key < 5; key++) {
            y.weight(0, key, key == 4 ? 1 : 2);
            y.weight(1, key, 9);
        }
        y.weight(0, 0, 3);
        due("1 of 10 a step against 1 of 5, 7 steps", y.quick(7), 1);
        y.weight(1, 4, 4);
        y.weight(1, 0, 9);
        due("1 of 10 against 4 of 40", y.quick(7), 2);
        TwoKeys w = with(1, "!h", "?0");
        w.weight(1, 0, 2);
        w.weight(1, 1, 3);
        due("1 of 2 against 3 of 5", w.quick(1), 1);
        w.weight(0, 0, 2);
        w.weight(0, 1, 3);
        w.weight(1, 0, 1);
        w.weight(1, 1, 1);
        due("3 of 5 against 1 of 2", w.quick(1), 0);
        TwoKeys e = with(4, "", "?0", "?0");
        due("10 to the 12th", e.quick(12), 2);
        e.weight(1, 0, 0);
        due("10 to the 13th of one", e.quick(13), -1);
        TwoKeys z = with(0, "", "a=a+1", "b=b+1", "c=c+1", "d=d+1");
        due("too many states", z.quick(16), -3);
    }

    private static void rounds() {
        TwoKeys x = with(0, "!F", "a=a+10;?a<5;x");
        due("no tasks", new TwoKeys().round(0, 0), -1);
        due("slot -1", x.round(-1, 1), -1);
        due("slot 8", x.round(8, 1), -1);
        due("n 7", x.round(0, 7), -1);
        due("n -1", x.round(0, -1), -1);
        due("3 steps", x.round(0, 3), 5);
        rowIs(x, 246, 247, 248, 249, 250);
        due("2 steps", x.round(0, 2), 0);
        rowIs(x);
        due("another slot", x.round(1, 6), 0);
        due("a stays", x.at(0), 0);
        must(x, "a<20");
        due("numbers above", x.round(0, 1), 236);
        rowIs(x, 10, 11, 12, 13, 14, 15, 16, 17, 18, 19, 20, 21, 22, 23, 24, 25, 26, 27, 28, 29);
        TwoKeys y = with(0, "0", "a=a+1", "b=b+1", "c=c+1", "d=d+1");
        due("210 states", y.round(0, 6), 256);
        y.keys(1);
        due("more than 300", y.round(0, 6), -3);
        due("the row stays", y.count(8), 20);
        TwoKeys e = with(3, "h<3", capped('a', 4), capped('b', 4), capped('c', 5), "?0");
        due("300 states each", e.round(6, 6), 256);
        TwoKeys t = with(0, "a<b", "a=a+1");
        t.slot(0, 7);
        t.slot(1, 3);
        due("the other slots are as they are", t.round(0, 1), 253);
        due("the other slots are as they are", t.round(1, 1), 9);
        rowIs(t, 0, 1, 2, 3, 4, 5, 6, 7, 8);
        TwoKeys o = with(3, "h<3", capped('a', 1), capped('b', 2), capped('c', 2), capped('d', 4));
        due("301 states each", o.round(6, 6), -3);
    }

    private static void meanings() {
        TwoKeys x = with(2, "!F", "j3:h=1;s5;j0:1;x;j0:1");
        due("no tasks", new TwoKeys().means(1, 1), -1);
        due("-1", x.means(-1, 1), -1);
        due("100", x.means(100, 1), -1);
        due("n 21", x.means(5, 21), -1);
        due("two", x.means(5, 2), 0);
        rowIs(x, 6, 0);
        due("others", x.means(6, 2), 0);
        rowIs(x, 0, 0);
        due("three", x.means(5, 3), 0);
        rowIs(x, 18, 0);
        TwoKeys y = with(0, "!F", "s5", "x", "s6");
        due("either order", y.means(5, 2), 0);
        rowIs(y, 5, 2);
        due("three", y.means(6, 3), 0);
        rowIs(y, 19, 12);
        task(y, 0, "s0");
        task(y, 2, "s99");
        due("the least number", y.means(0, 1), 0);
        rowIs(y, 1, 0);
        due("the greatest number", y.means(99, 1), 0);
        rowIs(y, 1, 0);
        TwoKeys e = with(4, "", "s1", "?0");
        due("10 to the 12th", e.means(1, 12), 0);
        rowIs(e, 1000000000000L - 244140625, 0);
        due("0 steps", y.means(6, 0), 0);
        rowIs(y, 0, 0);
        TwoKeys z = with(0, "", "a=a+1", "b=b+1", "c=c+1", "d=d+1");
        due("too many states", z.means(1, 16), -3);
        due("too many runs", z.means(1, 20), -1);
    }

    // ---- bolts, mends

    private static void hids() {
        TwoKeys x = with(0, "!(F&a)", "a=1;a=0", "x");
        due("no such bolt", x.hid(0, 3), -1);
        bolt(x, "!a");
        bolt(x, "b");
        due("no such bolt", x.hid(2, 3), -1);
        due("no such bolt", x.hid(-1, 3), -1);
        due("n 21", x.hid(0, 21), -1);
        due("never the only one", x.hid(0, 5), -2);
        x.turn(1, false);
        due("not on", x.hid(1, 5), -1);
        due("two", x.hid(0, 5), 2);
        rowIs(x, 0, 1);
        due("one", x.hid(0, 1), -2);
        x.turn(1, true);
        x.slot(1, 1);
        due("the other one holds", x.hid(0, 5), 2);
        must(x, "!P");
        due("P would be 0", x.hid(0, 5), -2);
        must(x, "");
        due("no must", x.hid(0, 5), -2);
        must(x, "!F|S|W=0");
        due("W", x.hid(0, 5), 2);
        TwoKeys y = with(0, "!(F&A=1)", "m0:1;?0", "x");
        bolt(y, "A<4");
        due("the state behind the step", y.hid(0, 20), 4);
        rowIs(y, 0, 0, 0, 1);
        TwoKeys z = with(0, "", "a=a+1", "b=b+1", "c=c+1", "d=d+1");
        bolt(z, "0");
        due("too many states", z.hid(0, 16), -3);
    }

    private static void irons() {
        TwoKeys x = with(0, "!F", "a=1;a=0", "?a;x");
        due("no tasks", new TwoKeys().iron(0), -1);
        due("n 21", x.iron(21), -1);
        due("no bolts: -2", x.iron(5), -2);
        due("none needed", x.iron(2), 0);
        rowIs(x, 0);
        bolt(x, "a");
        bolt(x, "!a");
        due("both", x.iron(5), 2);
        rowIs(x, 3);
        bolt(x, "0");
        x.turn(2, false);
        due("the third alone", x.iron(5), 1);
        rowIs(x, 4);
        due("on stays", x.count(3), 3);
        must(x, "!F&!P");
        due("all do not do", x.iron(5), -2);
        rowIs(x, 4);
        must(x, "!P");
        due("none does, though all do not", x.iron(5), 0);
        TwoKeys y = with(0, "", "a=a+1", "b=b+1", "c=c+1", "d=d+1");
        due("too many states", y.iron(16), -3);
        TwoKeys z = with(0, "!F", "x");
        bolt(z, "0");
        bolt(z, "0");
        due("of as few the least", z.iron(3), 1);
        rowIs(z, 1);
    }

    private static void patchesTold() {
        TwoKeys x = with(0, "", "a=1;x");
        due("no such task", patch(x, 1, 0, "x"), -100);
        due("no such task", patch(x, 4, 0, "x"), -100);
        due("no such task", patch(x, -1, 0, "x"), -100);
        due("no such line", patch(x, 0, 2, "q"), -100);
        due("no such line", patch(x, 0, -1, "x"), -100);
        due("the text is empty then", x.count(9), 0);
        due("a ; can't stand", patch(x, 0, 0, "x;x"), -2);
        due("no text", patch(x, 0, 0, ""), -1);
        due("a wrong one", patch(x, 0, 0, "a=F"), -3);
        due("61 signs", patch(x, 0, 0, "a=123" + times("+1", 28)), -61);
        due("none yet", x.count(4), 0);
        for (int i = 0; i < 5; i++) {
            due("number", patch(x, 0, i % 2, "s" + i), i);
        }
        due("5 are all", patch(x, 0, 0, "("), -100);
        due("patches", x.count(4), 5);
        due("they do nothing by hand", x.step(0, 0), 0);
    }

    private static void mends() {
        TwoKeys x = with(0, "!F", "a=1;a=0", "?a;x");
        due("no tasks", new TwoKeys().mend(0), -1);
        due("n 21", x.mend(21), -1);
        due("none", x.mend(5), -2);
        patch(x, 0, 0, "a=2");
        due("does not do", x.mend(5), -2);
        patch(x, 1, 1, "s7");
        due("the second", x.mend(5), 1);
        rowIs(x, 2);
        due("patches are not put on", x.never(3), 3);
        patch(x, 0, 0, "a=0");
        due("of as few the least", x.mend(5), 1);
        rowIs(x, 2);
        patch(x, 1, 1, "x");
        due("still", x.mend(5), 1);
        must(x, "!F&!(S=8)");
        due("the third", x.mend(5), 1);
        rowIs(x, 4);
        due("none needed", x.mend(2), 0);
        rowIs(x, 0);
        due("the program stays", x.never(5), 3);
        must(x, "!F");
        task(x, 1, "x");
        due("the line is not there any more", x.mend(5), -2);
        due("patches are not put on", x.never(1), 1);
        task(x, 1, "?0;s1");
        due("none needed", x.mend(5), 0);
        TwoKeys y = with(0, "!F&!(S=4)", "x");
        patch(y, 0, 0, "a=1");
        patch(y, 0, 0, "s3");
        due("the one alone", y.mend(3), 1);
        rowIs(y, 1);
        TwoKeys o = with(0, "!F&!(S=4)&a<1", "x;a=1");
        patch(o, 0, 0, "s3");
        patch(o, 0, 0, "a=0");
        patch(o, 0, 1, "a=0");
        due("two", o.mend(4), 2);
        rowIs(o, 6);
        patch(o, 0, 0, "s3");
        due("the one told later in its place", o.mend(4), 2);
        TwoKeys z = with(0, "", "a=a+1", "b=b+1", "c=c+1", "d=d+1");
        due("too many states", z.mend(16), -3);
        TwoKeys w = with(0, "a<1", "x;a=1", "b=b+1", "c=c+1", "d=d+1");
        patch(w, 0, 1, "a=0");
        due("one does", w.mend(10), 1);
        patch(w, 0, 0, "e=e+1");
        due("in one that is tried", w.mend(18), -3);
    }

    private static void drops() {
        TwoKeys x = with(0, "!F", "x");
        due("none", x.drop(), 0);
        patch(x, 0, 0, "s1");
        patch(x, 0, 0, "s2");
        due("mends", x.mend(2), 1);
        due("two", x.drop(), 2);
        due("none", x.count(4), 0);
        due("mends not", x.mend(2), -2);
        due("numbers from 0 again", patch(x, 0, 0, "s1"), 0);
    }

    // ---- a told typing

    private static void types() {
        TwoKeys x = new TwoKeys();
        due("-1", x.type(-1), -1);
        due("5", x.type(5), -1);
        for (int i = 1; i <= 8; i++) {
            due("type", x.type(i % 5), i);
        }
        due("8 are all", x.type(0), -1);
        due("count", x.count(5), 8);
    }

    private static void wipes() {
        TwoKeys x = with(2, "", "x");
        due("none", x.wipe(), 0);
        x.type(1);
        x.type(0);
        due("two", x.wipe(), 2);
        due("none", x.count(5), 0);
        due("no typing", x.fits(), -1);
        due("first", x.type(1), 1);
    }

    private static void fitting() {
        TwoKeys x = with(2, "!F", "?h=2;x", "?h=1;?0", "?0");
        due("no typing", x.fits(), -1);
        TwoKeys none = new TwoKeys();
        none.type(1);
        due("no tasks", none.fits(), -1);
        x.type(2);
        due("one is too few", x.fits(), 0);
        x.type(0);
        due("two", x.fits(), 1);
        rowIs(x, 0, 0);
        x.type(0);
        due("three", x.fits(), 1);
        rowIs(x, 0, 1, 0);
        x.keys(1);
        due("keys above k are none", x.fits(), 0);
        rowIs(x, 0, 1, 0);
        x.keys(2);
        x.type(1);
        due("in the last for the first time", x.fits(), 1);
        rowIs(x, 0, 1, 1, 0);
        TwoKeys y = with(0, "!F", "x");
        y.type(0);
        due("breaks in the first", y.fits(), 1);
        rowIs(y, 0);
        TwoKeys w = with(0, "!F", "?0", "x", "x");
        w.type(0);
        due("task 1 is the first by numbers", w.fits(), 1);
        rowIs(w, 1);
        task(w, 0, "x");
        due("task 0 is the first by numbers", w.fits(), 1);
        rowIs(w, 0);
        y.type(0);
        due("not for the first time", y.fits(), 0);
        TwoKeys z = with(0, "", "a=a+a+1", "a=a+a", "b=b+b+1", "b=b+b");
        for (int i = 0; i < 8; i++) {
            z.type(0);
        }
        due("states enough", z.fits(), 0);
    }

    private static void manies() {
        TwoKeys x = with(2, "!F", "?h=2;x", "?0");
        due("no typing", x.many(), -1);
        x.type(2);
        x.type(0);
        due("two", x.many(), 0);
        rowIs(x, 1, 4);
        x.type(0);
        due("three", x.many(), 0);
        rowIs(x, 2, 8);
        x.type(0);
        due("four", x.many(), 0);
        rowIs(x, 3, 16);
        x.keys(1);
        due("key 2 is none", x.many(), 0);
        rowIs(x, 0, 16);
        x.wipe();
        due("no typing", x.many(), -1);
        rowIs(x, 0, 16);
        TwoKeys z = manyStates();
        due("too many", z.many(), -3);
        due("too many", z.fits(), -3);
        due("too many", z.spare(), -3);
        TwoKeys e = shifting("!(h&b=1&a<96)");
        due("3999 behind all steps", e.many(), 0);
        due("fits", e.fits(), 1);
        TwoKeys o = shifting("!(h&b=1&a<95)");
        due("4000 behind all steps", o.many(), -3);
        due("too many, though it fits", o.fits(), -3);
    }

    /** 4095 states behind eight steps, less those in which a must of the last one breaks. */
    private static TwoKeys shifting(String must) {
        TwoKeys x = with(1, must, "a=a+a", "a=a+a+1", "b=b+b", "b=b+b+1");
        x.slot(0, 1);
        x.slot(1, 1);
        for (int i = 1; i <= 8; i++) {
            x.type(i / 8);
        }
        return x;
    }

    /** Four tasks that each shift another two bits in: more than 3999 states behind eight steps. */
    private static TwoKeys manyStates() {
        TwoKeys z = with(0, "", "a=a+a+1;c=c+a", "b=b+b+1;c=c+c+b", "d=d+a+b+c+1;e=e+d", "f=f+f+d+1;g=f+g+e");
        for (int i = 0; i < 8; i++) {
            z.type(0);
        }
        return z;
    }

    private static void spares() {
        TwoKeys x = with(2, "!F", "?h=2;x", "?0");
        due("no typing", x.spare(), -1);
        x.type(1);
        x.type(2);
        x.type(0);
        due("the second", x.spare(), 1);
        rowIs(x, 2);
        x.type(2);
        x.type(0);
        due("both", x.spare(), 2);
        rowIs(x, 10);
        x.keys(1);
        due("keys above k are none", x.spare(), 0);
        rowIs(x, 0);
        x.keys(2);
        task(x, 1, "x");
        due("breaks with all left out", x.spare(), -2);
        rowIs(x, 0);
        TwoKeys y = with(2, "!F|h=1", "x");
        y.type(1);
        due("none, though it breaks with all left out", y.spare(), 0);
        y.type(2);
        due("the second", y.spare(), 1);
        rowIs(y, 2);
    }

    // ---- shapes

    private static void likes() {
        TwoKeys x = with(0, "", "a=b+A;j1:a", "h=a+A;j1:h", "a=a+A;j1:a", "a=b+B;j1:a");
        due("none such", x.like(0, 4), -1);
        due("none such", x.like(-1, 0), -1);
        due("like", x.like(0, 1), 1);
        rowIs(x, 7, 0, -1, -1, -1, -1, -1, -1);
        due("back", x.like(1, 0), 1);
        rowIs(x, 1, -1, -1, -1, -1, -1, -1, 0);
        due("each for one alone", x.like(0, 2), 0);
        due("each for one alone", x.like(2, 0), 0);
        due("parts are no slots", x.like(0, 3), 0);
        rowIs(x, 1, -1, -1, -1, -1, -1, -1, 0);
        due("itself", x.like(3, 3), 1);
        task(x, 1, "a=1");
        task(x, 2, "a=01");
        task(x, 3, "b=2");
        due("the text counts", x.like(1, 2), 0);
        due("numbers count", x.like(1, 3), 0);
        due("none such", x.like(4, 0), -1);
        due("none such", x.like(0, -1), -1);
        String[] one = {"a=b", "a=a", "a=b", "a=1", "a=b", "a=b;c=a", "a=b;c=a"};
        String[] two = {"c=c", "b=c", "c=1", "c=d", "x;x", "b=a;c=b", "b=a;d=c"};
        int[] alike = {0, 0, 0, 0, 0, 1, 0};
        for (int i = 0; i < one.length; i++) {
            task(x, 0, one[i]);
            task(x, 1, two[i]);
            due("like of " + one[i] + " and " + two[i], x.like(0, 1), alike[i]);
        }
        rowIs(x, 1, 0, 2, -1, -1, -1, -1, -1);
    }

    // ---- houses

    private static void givens() {
        TwoKeys x = new TwoKeys();
        int[][] bad = {{-1, 0, 0}, {6, 0, 0}, {0, -1, 0}, {0, 100, 0}, {0, 0, -1}, {0, 0, 256}, {MIN, MAX, MIN}};
        for (int[] b : bad) {
            due("given " + Arrays.toString(b), x.given(b[0], b[1], b[2]), -1);
        }
        for (int i = 0; i < 12; i++) {
            due("given", x.given(5, 99, 255), i);
        }
        due("12 are all", x.given(0, 0, 0), -1);
        due("count", x.count(6), 12);
        due("known", x.knew(5, 99), 4095);
        due("not yet", x.knew(5, 98), 0);
    }

    private static void lettersTold() {
        TwoKeys x = new TwoKeys();
        int[][] bad = {{-1, 0, 0, 0}, {6, 0, 0, 0}, {0, -1, 0, 0}, {0, 6, 0, 0}, {1, 1, 0, 0}, {0, 1, -1, 0}, {0, 1, 100, 0}, {0, 1, 0, -1},
            {0, 1, 0, 51}};
        for (int[] b : bad) {
            due("letter " + Arrays.toString(b), x.letter(b[0], b[1], b[2], b[3]), -1);
        }
        for (int i = 1; i <= 12; i++) {
            due("letter", x.letter(0, 5, 99, 50), i);
        }
        due("12 are all", x.letter(0, 1, 0, 0), -1);
        due("count", x.count(7), 12);
        x.given(0, 99, 1);
        due("a case told later is in it", x.knew(5, 149), 1);
        due("not yet", x.knew(5, 148), 0);
    }

    private static void knews() {
        TwoKeys x = new TwoKeys();
        int[][] bad = {{-1, 0}, {6, 0}, {0, -1}, {0, 201}};
        for (int[] b : bad) {
            due("knew " + Arrays.toString(b), x.knew(b[0], b[1]), -1);
        }
        due("week 0", x.knew(0, 0), 0);
        due("week 200", x.knew(5, 200), 0);
        x.given(0, 3, 1);
        x.given(1, 4, 2);
        x.letter(3, 0, 4, 0);
        x.letter(2, 3, 4, 0);
        x.letter(1, 2, 4, 0);
        x.letter(0, 1, 4, 0);
        for (int house = 0; house < 4; house++) {
            due("round in one week", x.knew(house, 4), 3);
        }
        due("ahead of it", x.knew(1, 3), 0);
        due("own", x.knew(0, 3), 1);
        x.letter(3, 4, 3, 9);
        due("sent ahead of that", x.knew(4, 200), 0);
        x.letter(4, 5, 20, 1);
        x.letter(3, 4, 10, 10);
        due("comes as one is sent", x.knew(5, 21), 3);
        due("not yet", x.knew(5, 20), 0);
        x.given(3, 11, 8);
        due("known behind the sending", x.knew(4, 200), 3);
    }

    private static void enoughs() {
        TwoKeys x = new TwoKeys();
        int[][] bad = {{-1, 0}, {256, 0}, {0, -1}, {0, 13}};
        for (int[] b : bad) {
            due("enough " + Arrays.toString(b), x.enough(b[0], b[1]), -1);
        }
        due("nothing asked", x.enough(0, 0), 0);
        rowIs(x, 0);
        due("a case with none of these does not count", x.enough(0, 1), -2);
        x.given(3, 10, 5);
        x.given(2, 7, 2);
        x.given(2, 8, 8);
        due("one mark", x.enough(1, 1), 10);
        rowIs(x, 3);
        due("together", x.enough(7, 2), -2);
        rowIs(x, 3);
        x.letter(2, 3, 8, 50);
        due("together by letter", x.enough(7, 2), 58);
        rowIs(x, 3);
        due("three have some of these", x.enough(7, 3), -2);
        due("three", x.enough(15, 3), 58);
        x.letter(3, 1, 99, 50);
        x.given(1, 0, 0);
        due("the first house", x.enough(2, 1), 7);
        rowIs(x, 2);
        x.given(0, 99, 128);
        due("the last week of a case", x.enough(128, 1), 99);
        due("all marks", x.enough(255, 12), -2);
        TwoKeys y = new TwoKeys();
        for (int i = 0; i < 12; i++) {
            y.given(4, i, 1 << i % 8);
        }
        due("all marks, all cases", y.enough(255, 12), 11);
        rowIs(y, 4);
    }

    // ---- kept

    private static void keeps() {
        TwoKeys x = new TwoKeys();
        no("-1", x.keep(-1));
        no("3", x.keep(3));
        no("nothing kept", x.again(2));
        yes("0", x.keep(0));
        yes("2", x.keep(2));
        yes("again", x.again(2));
        no("nothing kept", x.again(1));
    }

    private static void agains() {
        TwoKeys x = with(2, "", "a=a+1;m0:1;x");
        bolt(x, "1");
        no("-1", x.again(-1));
        no("3", x.again(3));
        x.step(0, 2);
        x.step(0, 0);
        x.keep(0);
        x.speed(3, 9);
        x.keys(4);
        x.turn(0, false);
        x.keep(1);
        x.step(0, 4);
        x.slot(6, 3);
        yes("again", x.again(0));
        due("F stays", x.count(11), 1);
        due("steps stay", x.count(10), 3);
        due("keys", x.count(1), 2);
        due("on", x.count(3), 1);
        due("speed", x.speed(3, 3), 3);
        due("h", x.at(7), 2);
        due("g", x.at(6), 0);
        due("line", x.at(20), 2);
        due("moving", x.at(16), 3);
        yes("the other one", x.again(1));
        due("keys", x.count(1), 4);
        due("on", x.count(3), 0);
        due("speed", x.speed(3, 9), 9);
        due("a wrong task", task(x, 0, "q"), -1);
        due("no such task", task(x, 3, "x"), -100);
        due("a wrong bolt", bolt(x, ""), -1);
        must(x, "!F");
        patch(x, 0, 0, "x");
        yes("they are kept", x.again(0));
        bolt(x, "1");
        no("a bolt since", x.again(0));
        no("a bolt since", x.again(1));
        x.keep(0);
        yes("kept anew", x.again(0));
        task(x, 0, "x");
        no("a task since", x.again(0));
    }

    private static void counts() {
        TwoKeys x = with(3, "", "s9;x", "?1");
        due("-1", x.count(-1), -1);
        due("15", x.count(15), -1);
        due("MIN", x.count(MIN), -1);
        bolt(x, "0");
        bolt(x, "0");
        x.turn(0, false);
        patch(x, 0, 0, "x");
        x.type(1);
        x.type(1);
        x.type(1);
        x.given(0, 0, 0);
        x.letter(0, 1, 0, 0);
        x.letter(0, 1, 0, 0);
        x.runs(0);
        x.sign(0);
        x.step(1, 0);
        x.step(0, 0);
        int[] due = {2, 3, 2, 2, 1, 3, 1, 2, 2, 4, 2, 0, 0, 10, 0};
        for (int i = 0; i < due.length; i++) {
            due("count(" + i + ")", x.count(i), due[i]);
        }
        x.step(0, 0);
        due("P", x.count(12), 1);
        due("S", x.count(13), 0);
        x.step(1, 0);
        due("P", x.count(12), 0);
        due("W", x.count(14), 1);
    }

    private static void rows() {
        TwoKeys x = with(0, "", "x");
        for (int i : new int[] {0, -1, MIN, MAX}) {
            yes("row(" + i + ") throws", throwsAt(x, i));
        }
        x.runs(3);
        due("row", x.row(0), 0);
        due("row", x.row(1), 1);
        for (int i : new int[] {2, -1, MIN, MAX}) {
            yes("row(" + i + ") throws", throwsAt(x, i));
        }
        x.all(3);
        x.never(2);
        x.runs(21);
        x.like(0, 7);
        due("calls that tell none leave it", x.count(8), 2);
    }

    private static boolean throwsAt(TwoKeys x, int i) {
        try {
            x.row(i);
            return false;
        } catch (NoSuchElementException e) {
            return true;
        }
    }
}
