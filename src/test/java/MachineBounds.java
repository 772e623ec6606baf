/** The boundary cases of promises 1 to 14: the machine. */
final class MachineBounds {
    private static final int MIN = Bounds.MIN;
    private static final int MAX = Bounds.MAX;

    private MachineBounds() {
    }

    static void test() {
        newObject();
        signs();
        ends();
        tasksOfNumbers();
        tasksThatEndEarly();
        tasksOfWrongSigns();
        tasksTooLong();
        musts();
        bolts();
        turns();
        slots();
        speeds();
        keys();
        stepsRefused();
        stepsThatGoRound();
        stepsOfLines();
        stepsOfParts();
        stepsOfBolts();
        sheets();
        looks();
        asks();
    }

    // ---- promise 1

    private static void newObject() {
        TwoKeys x = new TwoKeys();
        Bounds.says(1, "No TASKS; SLOTS 0.");
        Bounds.due("TASKS", x.count(0), 0);
        for (int i = 0; i < 8; i++) {
            Bounds.due("slot", x.at(i), 0);
        }
        for (int i = 20; i < 24; i++) {
            Bounds.due("line", x.at(i), TwoKeys.NONE);
        }
        Bounds.due("step", x.step(0, 0), TwoKeys.NONE);
        Bounds.says(1, "SLOTS a .. h: 0 .. 255 each (at first 0).");
        Bounds.due("sum", Bounds.value(x, "a|b|c|d|e|f|g|h"), 0);
        Bounds.says(1, "PARTS A .. D: at a PLACE 0 .. 3 (at first 0)");
        Bounds.due("sum", Bounds.value(x, "A|B|C|D"), 0);
        for (int i = 8; i < 20; i++) {
            Bounds.due("part", x.at(i), 0);
        }
        Bounds.says(1, "each has a SPEED 0 .. 15 (at first 3).");
        for (int part = 0; part < 4; part++) {
            Bounds.due("speed", x.speed(part, 0), 3);
        }
        Bounds.says(1, "KEYS: 1 .. k (k 0 .. 4, at first 2).");
        Bounds.due("keys", x.count(1), 2);
        Bounds.says(1, "MUST: an ASKED EXPRESSION (none at first: it holds)");
        Bounds.task(x, 0, "x");
        Bounds.due("never", x.never(3), -2);
        Bounds.says(1, "and the LINE at which it is (0 at first).");
        Bounds.due("line", x.at(20), 0);
        Bounds.says(1, "(at first 1 each)");
        for (int key = 0; key < 5; key++) {
            Bounds.due("weight", x.weight(0, key, 5), 1);
            Bounds.due("weight", x.weight(1, key, 5), 1);
        }
        Bounds.says(1, "(Ahead of the first STEP all are 0;");
        Bounds.due("F, P, S, W", Bounds.value(new TwoKeys(), "F|P|S|W"), 0);
        manyCalls();
    }

    private static void manyCalls() {
        Bounds.says(1, "An object is used for at most 512 calls after it has been made");
        TwoKeys x = new TwoKeys();
        x.sign(0x613D612B);
        x.sign(0x31000000);
        x.end(5);
        Bounds.due("a=a+1", x.task(0), 1);
        for (int i = 5; i <= 510; i++) {
            x.step(0, 0);
        }
        Bounds.due("the 511th call", x.at(0), (510 - 4) & 255);
        Bounds.due("the 512th call", x.count(10), 510 - 4);
        TwoKeys y = new TwoKeys();
        for (int i = 1; i <= 511; i++) {
            y.sign(i);
        }
        Bounds.due("the 512th call", y.count(9), 100);
    }

    // ---- promises 2, 3

    private static void signs() {
        Bounds.says(2, "Four signs come behind THE TEXT, of v the highest byte first: how many it has.");
        TwoKeys x = new TwoKeys();
        Bounds.due("sign", x.sign(0x613D37FF), 4);
        Bounds.due("the lowest byte is the last sign", x.task(0), -4);
        Bounds.due("sign", x.sign(0x613DFF37), 4);
        Bounds.due("the third", x.task(0), -3);
        Bounds.due("sign", x.sign(0x61FF3737), 4);
        Bounds.due("the second", x.task(0), -2);
        Bounds.due("sign of a number below 0", x.sign(0xFF3D3737), 4);
        Bounds.due("the highest byte is the first", x.task(0), -1);
        Bounds.due("sign", x.sign(0x613D312B), 4);
        Bounds.due("behind it", x.sign(0x31313131), 8);
        Bounds.due("a=1+1111 is wrong at the fourth digit", x.task(0), -8);
        Bounds.due("of 0", x.sign(0), 4);
        Bounds.due("of -1", x.sign(-1), 8);
        Bounds.says(2, "Refused: there would be more than 100.");
        for (int size = 96; size <= 100; size++) {
            TwoKeys y = Bounds.put(new TwoKeys(), Bounds.times("x;", 50));
            Bounds.due("full", y.count(9), 100);
            y.end(size);
            String before = Bounds.look(y);
            Bounds.due("sign behind " + size, y.sign(0x61616161), size == 96 ? 100 : TwoKeys.NONE);
            if (size > 96) {
                Bounds.unchanged(y, before);
            }
        }
        TwoKeys z = Bounds.put(new TwoKeys(), "s12");
        Bounds.put(z, "a=1" + Bounds.times("+", 97));
        z.sign(0x3B3B3B3B);
        Bounds.yes("end", z.end(3));
        Bounds.due("the signs that stood stay", z.task(0), 1);
    }

    private static void ends() {
        Bounds.says(3, "THE TEXT has its first n signs alone: true;");
        TwoKeys x = Bounds.put(new TwoKeys(), "s12345678");
        Bounds.yes("all of them", x.end(9));
        Bounds.due("signs", x.count(9), 9);
        Bounds.yes("the first 3", x.end(3));
        Bounds.due("signs", x.count(9), 3);
        Bounds.due("s12", x.task(0), 1);
        Bounds.due("said", x.step(0, 0), 15);
        Bounds.yes("none of none", x.end(0));
        Bounds.put(x, "x");
        Bounds.yes("none of one", x.end(0));
        Bounds.due("signs", x.count(9), 0);
        TwoKeys full = Bounds.put(new TwoKeys(), Bounds.times("x", 100));
        Bounds.yes("100 of 100", full.end(100));
        Bounds.says(3, "false if it has not so many, or n is below 0.");
        TwoKeys y = Bounds.put(new TwoKeys(), "s12");
        String before = Bounds.look(y);
        for (int n : new int[] {4, 5, 100, 101, MAX, -1, -3, MIN}) {
            Bounds.no("end(" + n + ")", y.end(n));
        }
        Bounds.unchanged(y, before);
        Bounds.due("s12 stands", y.task(0), 1);
        Bounds.no("one of none", y.end(1));
        Bounds.no("101 of 100", full.end(101));
    }

    // ---- promise 4

    private static void tasksOfNumbers() {
        Bounds.says(4, "THE TEXT, which is empty then, is a PROGRAM of a TASK");
        TwoKeys x = new TwoKeys();
        Bounds.due("task", Bounds.task(x, 0, "x"), 1);
        Bounds.due("signs", x.count(9), 0);
        Bounds.due("an empty one is wrong at 0", x.task(0), -1);
        Bounds.task(x, 1, "?q");
        Bounds.due("signs behind a wrong one", x.count(9), 0);
        Bounds.task(x, 9, "x");
        Bounds.due("signs behind no such TASK", x.count(9), 0);
        Bounds.says(4, "(number as many as there are: a new one; else in place, at LINE 0): how many LINES.");
        Bounds.due("a second", Bounds.task(x, 1, "a=1;b=2"), 2);
        x.step(1, 0);
        Bounds.due("a third", Bounds.task(x, 2, "a=1;b=2;c=3"), 3);
        x.step(2, 0);
        x.step(2, 0);
        Bounds.due("in place", Bounds.task(x, 2, "d=4;e=5;f=6;g=7"), 4);
        Bounds.due("tasks", x.count(0), 3);
        Bounds.due("at LINE 0", x.at(22), 0);
        Bounds.due("the other one stays", x.at(21), 1);
        x.step(2, 0);
        Bounds.due("the new PROGRAM", x.at(3), 4);
        Bounds.due("SLOTS stay", x.at(0), 1);
        Bounds.says(4, "TASKS 0 .. (at most 4)");
        Bounds.due("a fourth", Bounds.task(x, 3, "x"), 1);
        Bounds.due("a fifth", Bounds.task(x, 4, "x"), -100);
        Bounds.due("in place", Bounds.task(x, 3, "x;x"), 2);
        Bounds.due("tasks", x.count(0), 4);
        Bounds.says(4, "-100: no such TASK (asked first).");
        TwoKeys y = new TwoKeys();
        Bounds.due("task(1) of none", Bounds.task(y, 1, "x"), -100);
        Bounds.task(y, 0, "x");
        String before = Bounds.look(y);
        for (int task : new int[] {2, 3, 4, 5, -1, MIN, MAX}) {
            Bounds.due("task(" + task + ")", Bounds.task(y, task, "x"), -100);
        }
        Bounds.due("ahead of a wrong text", Bounds.task(y, 2, "q"), -100);
        Bounds.due("ahead of an empty text", y.task(-1), -100);
        Bounds.unchanged(y, before);
    }

    /** Each text and where it ends; what has to come next is missing. */
    private static void tasksThatEndEarly() {
        Bounds.says(4, "-1 - p: the sign at p can't stand there (its end, if it ends too early;");
        String[] early = {"", "a", "a=", "a=-", "a=!", "a=1+", "a=1-", "a=1|", "a=1&", "a=1<", "a=1>", "a=1=", "a=(", "a=(1", "a=((1)", "a=(1)+", "a=!(",
            "?", "?!", "m", "m3", "m3:", "m3:-", "j", "j0", "j15", "j15:", "j15:(1", "s", "x;", "a=1;", "s5;b", "x;x;m1"};
        TwoKeys x = new TwoKeys();
        for (String t : early) {
            Bounds.due("task of " + t, Bounds.task(x, 0, t), -1 - t.length());
        }
        Bounds.due("60 signs that end too early", Bounds.task(x, 0, "a=1" + Bounds.times("+1", 28) + "+"), -61);
        Bounds.due("59 signs that end too early", Bounds.task(x, 0, "a=" + Bounds.times("1+", 28) + "-"), -60);
        Bounds.says(4, "nothing changes.");
        Bounds.due("TASKS", x.count(0), 0);
        Bounds.task(x, 0, "a=1;b=2;c=3");
        x.step(0, 0);
        String before = Bounds.look(x);
        Bounds.due("in place", Bounds.task(x, 0, "d=1;"), -5);
        Bounds.due("a new one", Bounds.task(x, 1, "d=1;e"), -6);
        Bounds.unchanged(x, before);
        x.step(0, 0);
        Bounds.due("the PROGRAM stays", x.at(1), 2);
        Bounds.due("d", x.at(3), 0);
    }

    private static void tasksOfWrongSigns() {
        Bounds.says(4, "-1 - p: the sign at p can't stand there");
        TwoKeys x = new TwoKeys();
        wrongAt(0, "i=1", "A=1", "=1", "1", "F", ";", ";x", " x", ":", "(", "!a", "-a", "X", "S1", "M0:1");
        wrongAt(1, "a:1", "aa", "a 1", "xx", "x ", "x1", "?;", "?)", "?+1", "?=1", "s;", "sa", "s:", "s-1", "m:", "j:", "j-1", "x\0");
        wrongAt(2, "a==1", "a=)", "a=;", "a=+1", "a=i", "a=E", "a=x", "a=?", "a=:", "m0=1", "m01:1", "j1=1", "j1;", "s1a", "s1:", "s1 ", "x;;", "x;q");
        wrongAt(3, "a=1a", "a=a1", "a=aa", "a=1!", "a=1(", "a=1)", "a=()", "a=1:", "a=AB", "a=!)", "a=!+", "a=-;", "m3:;", "j12;", "a=1?");
        char[] beside = {0, 9, 10, 32, 34, 96, 'i', 'l', 'n', 'r', 't', 'y', 'z', '@', 'E', 127, 128, 225, 255};
        for (char c : beside) {
            wrongAt(0, c + "=1");
            wrongAt(2, "a=" + c);
        }
        Bounds.says(4, "m, a digit 0 .. 3, :, an EXPRESSION");
        Bounds.due("m0", Bounds.task(x, 0, "m0:1"), 1);
        Bounds.due("m3", Bounds.task(x, 0, "m3:1"), 1);
        wrongAt(1, "m4:1", "m9:1", "m/:1", "mA:1", "m-1:1");
        Bounds.says(4, "j, 1 or 2 digits, :, an EXPRESSION");
        Bounds.due("j9", Bounds.task(x, 0, "j9:1"), 1);
        Bounds.due("j99", Bounds.task(x, 0, "j99:1"), 1);
        Bounds.due("j00", Bounds.task(x, 0, "j00:1"), 1);
        wrongAt(3, "j000:1", "j123:1", "j12a");
        Bounds.says(4, "s and 1 or 2 digits");
        Bounds.due("s0", Bounds.task(x, 0, "s0"), 1);
        Bounds.due("s99", Bounds.task(x, 0, "s99"), 1);
        wrongAt(3, "s100", "s000", "s12a");
        expressionLimits(x);
        Bounds.says(4, "ASKED EXPRESSIONS (MUST, BOLTS, questions; texts of at most 60 signs) have also F");
        wrongAt(2, "a=F", "a=P", "a=S", "a=W", "m0F:1", "j1F:1");
        wrongAt(1, "?F", "?W");
    }

    private static void expressionLimits(TwoKeys x) {
        Bounds.says(4, "a NUMBER of 1 to 3 digits");
        Bounds.due("1", Bounds.task(x, 0, "a=0"), 1);
        Bounds.due("3", Bounds.task(x, 0, "a=999"), 1);
        Bounds.due("3 with 0 ahead", Bounds.task(x, 0, "a=007"), 1);
        wrongAt(5, "a=1000", "a=0001", "?(9999");
        wrongAt(7, "a=1+0001");
        Bounds.says(4, "an EXPRESSION in ( ) (at most 5 in one another)");
        Bounds.due("5", Bounds.task(x, 0, "a=(((((1)))))"), 1);
        Bounds.due("5 again behind 5", Bounds.task(x, 0, "a=(((((1)))))+(((((2)))))"), 1);
        Bounds.due("many beside one another", Bounds.task(x, 0, "a=(1)+(2)+(3)+(4)+(5)+(6)+(7)"), 1);
        Bounds.due("5, each behind a sign", Bounds.task(x, 0, "a=!(-(!(-(!(1)))))"), 1);
        wrongAt(7, "a=((((((1))))))", "a=((((((");
        wrongAt(9, "a=(((((1+(2))))))");
        wrongAt(12, "a=!(-(!(-(!((1))))))");
        Bounds.due("in each LINE anew", Bounds.task(x, 0, "a=(((((1)))));?(((((1)))))"), 2);
        Bounds.says(4, "(two; 1 or 0; not one behind the other)");
        Bounds.due("in ( )", Bounds.task(x, 0, "a=(1<2)<(3=4)"), 1);
        Bounds.due("with & and | between", Bounds.task(x, 0, "a=1<2&3>4|5=6"), 1);
        wrongAt(5, "a=1<2<3", "a=1=2=3", "a=1>2<3", "a=1=2>3");
        wrongAt(7, "a=1<2+3<4", "a=1+2=3=4", "a=1<-!2>3");
        wrongAt(6, "a=(1<2<3)");
        wrongAt(9, "a=0&1<2-3>4");
        wrongAt(7, "a=(1)<2=3");
        Bounds.says(4, "then ! and - ahead of a thing (any many)");
        Bounds.due("57", Bounds.task(x, 0, "a=" + Bounds.times("!-", 28) + "1"), 1);
        Bounds.says(4, "No blanks.");
        wrongAt(0, " a=1");
        wrongAt(1, "a =1");
        wrongAt(2, "a= 1");
        wrongAt(3, "a=1 ", "a=1 ;x");
        wrongAt(4, "a=1; x");
    }

    private static void wrongAt(int place, String... texts) {
        for (String t : texts) {
            // an object for each text: there are more of them than one object has calls
            Bounds.due("task of " + t, Bounds.task(new TwoKeys(), 0, t), -1 - place);
        }
    }

    private static void tasksTooLong() {
        String whole = "a=12" + Bounds.times("+1", 28);
        Bounds.says(4, "A PROGRAM is a text of at most 60 signs");
        TwoKeys x = new TwoKeys();
        Bounds.due("60 signs", Bounds.task(x, 0, whole), 1);
        x.step(0, 0);
        Bounds.due("12 and 28", x.at(0), 40);
        Bounds.says(4, "60, if it has more and the first 60 could go on or end;");
        Bounds.due("could end, and goes on well", Bounds.task(x, 0, whole + "+1"), -61);
        Bounds.due("could end, and goes on wrong", Bounds.task(x, 0, whole + "q"), -61);
        Bounds.due("could end, one LINE more", Bounds.task(x, 0, whole + ";x"), -61);
        Bounds.due("could go on", Bounds.task(x, 0, "a=1" + Bounds.times("+1", 28) + "+1"), -61);
        Bounds.due("could go on, ( ) open", Bounds.task(x, 0, "a=(2" + Bounds.times("+1", 28) + ")"), -61);
        Bounds.due("could go on, ; last", Bounds.task(x, 0, "a=1" + Bounds.times("+1", 28) + ";x"), -61);
        Bounds.due("could go on, j1 last", Bounds.task(x, 0, "a=1" + Bounds.times("+1", 27) + ";j1:1"), -61);
        Bounds.due("100 signs", Bounds.task(x, 0, "a=" + Bounds.times("!", 98)), -61);
        Bounds.due("wrong at 59", Bounds.task(x, 0, whole.substring(0, 59) + "+1"), -60);
        Bounds.due("wrong at 3", Bounds.task(x, 0, "a=1q" + Bounds.times("1", 96)), -4);
        x.step(0, 0);
        Bounds.due("the PROGRAM of 60 signs stays", x.at(0), 40);
        Bounds.says(4, "LINES (at most 16) with ; between");
        Bounds.due("16 LINES", Bounds.task(x, 1, Bounds.times("x;", 15) + "x"), 16);
        for (int i = 0; i < 15; i++) {
            x.step(1, 0);
        }
        Bounds.due("the last LINE", x.at(21), 15);
        x.step(1, 0);
        Bounds.due("behind it", x.at(21), 0);
        Bounds.says(4, "a ; behind 16 LINES)");
        Bounds.due("17 LINES", Bounds.task(x, 0, Bounds.times("x;", 16) + "x"), -32);
        Bounds.due("no 17th LINE", Bounds.task(x, 0, Bounds.times("x;", 16)), -32);
        Bounds.due("17 LINES, 100 signs", Bounds.task(x, 0, Bounds.times("x;", 50)), -32);
        Bounds.due("17 LINES of s", Bounds.task(x, 0, Bounds.times("s1;", 17)), -48);
        Bounds.due("; at 59", Bounds.task(x, 0, Bounds.times("s1;", 14) + "a=1+2+3+4;b=1+2+3;x"), -60);
        Bounds.due("; at 60", Bounds.task(x, 0, Bounds.times("s1;", 14) + "a=1+2+3+4;b=1+2+33;x"), -61);
        Bounds.due("PROGRAM", x.at(20), 0);
    }

    // ---- promises 5 to 7

    private static void musts() {
        Bounds.says(5, "THE TEXT, which is empty then, is MUST (an empty one: there is none): 0;");
        TwoKeys x = Bounds.with(0, "", "x");
        Bounds.due("told", Bounds.must(x, "!F"), 0);
        Bounds.due("signs", x.count(9), 0);
        Bounds.due("it breaks", x.never(1), 1);
        Bounds.due("an empty one", x.must(), 0);
        Bounds.due("there is none", x.never(1), -2);
        Bounds.due("one that is 0", Bounds.must(x, "0"), 0);
        Bounds.due("it breaks", x.never(1), 1);
        Bounds.says(5, "-1 - p as task().");
        String before = Bounds.look(x);
        Bounds.due("ends too early", Bounds.must(x, "1+"), -3);
        Bounds.due("a wrong sign", Bounds.must(x, "1+E"), -3);
        Bounds.due("no LINE", Bounds.must(x, "1;1"), -2);
        Bounds.due("no LINE", Bounds.must(x, "x"), -1);
        Bounds.due("61 signs", Bounds.must(x, "1" + Bounds.times("+1", 30)), -61);
        Bounds.due("100 signs", Bounds.must(x, Bounds.times("!", 100)), -61);
        Bounds.due("60 signs that end too early", Bounds.must(x, Bounds.times("!", 60)), -61);
        Bounds.due("wrong at 59", Bounds.must(x, Bounds.times("!", 59) + "+1"), -60);
        Bounds.due("six in one another", Bounds.must(x, "((((((1))))))"), -6);
        Bounds.due("signs", x.count(9), 0);
        Bounds.unchanged(x, before);
        Bounds.due("the old one stays", x.never(1), 1);
        Bounds.says(5, "ASKED EXPRESSIONS (MUST, BOLTS, questions; texts of at most 60 signs)");
        Bounds.due("60 signs", Bounds.must(x, Bounds.times("!", 59) + "F"), 0);
        Bounds.due("it is !F", x.never(1), 1);
        Bounds.due("60 signs", Bounds.must(x, "--" + Bounds.times("-!", 28) + "-F"), 0);
        Bounds.due("it is F", x.never(1), -2);
    }

    private static void bolts() {
        Bounds.says(6, "THE TEXT, which is empty then, is a BOLT, ON: its number;");
        TwoKeys x = Bounds.with(0, "", "x");
        for (int i = 0; i < 3; i++) {
            Bounds.due("number", Bounds.bolt(x, "1"), i);
            Bounds.due("ON", x.count(3), (2 << i) - 1);
            Bounds.due("signs", x.count(9), 0);
        }
        Bounds.says(6, "-100: there are 3 (asked first).");
        String before = Bounds.look(x);
        Bounds.due("a fourth", Bounds.bolt(x, "0"), -100);
        Bounds.due("ahead of a wrong text", Bounds.bolt(x, "q"), -100);
        Bounds.due("ahead of an empty text", x.bolt(), -100);
        x.turn(2, false);
        Bounds.due("also if one is not ON", Bounds.bolt(x, "0"), -100);
        x.turn(2, true);
        Bounds.due("signs", x.count(9), 0);
        Bounds.unchanged(x, before);
        Bounds.due("those of ahead stay", x.step(0, 0), 1);
        Bounds.says(6, "-1 - p as task();");
        TwoKeys y = Bounds.with(0, "", "x");
        before = Bounds.look(y);
        Bounds.due("an empty one", y.bolt(), -1);
        Bounds.due("ends too early", Bounds.bolt(y, "(W"), -3);
        Bounds.due("a wrong sign", Bounds.bolt(y, "W=0;"), -4);
        Bounds.due("61 signs", Bounds.bolt(y, "0" + Bounds.times("+0", 30)), -61);
        Bounds.due("wrong at 60 of 60 signs", Bounds.bolt(y, "0" + Bounds.times("+0", 29) + ")"), -60);
        Bounds.unchanged(y, before);
        Bounds.due("none stops it", y.step(0, 0), 1);
        Bounds.due("60 signs", Bounds.bolt(y, "00" + Bounds.times("+0", 29)), 0);
        Bounds.due("it stops it", y.step(0, 0), 2);
    }

    private static void turns() {
        Bounds.says(7, "A BOLT is ON, or not: true.");
        TwoKeys x = Bounds.with(0, "", "x");
        Bounds.no("none yet", x.turn(0, true));
        Bounds.bolt(x, "0");
        Bounds.bolt(x, "0");
        Bounds.yes("ON as it is", x.turn(1, true));
        Bounds.due("ON", x.count(3), 3);
        Bounds.yes("not ON", x.turn(1, false));
        Bounds.yes("not ON as it is", x.turn(1, false));
        Bounds.due("ON", x.count(3), 1);
        Bounds.says(7, "Refused: none such.");
        String before = Bounds.look(x);
        for (int bolt : new int[] {2, 3, 32, 33, -1, -32, MIN, MAX}) {
            Bounds.no("turn(" + bolt + ", true)", x.turn(bolt, true));
            Bounds.no("turn(" + bolt + ", false)", x.turn(bolt, false));
        }
        Bounds.unchanged(x, before);
        Bounds.bolt(x, "0");
        Bounds.yes("the third", x.turn(2, false));
        Bounds.no("a fourth", x.turn(3, true));
    }

    // ---- promises 8 to 10

    private static void slots() {
        Bounds.says(8, "SLOT 0 .. 7 becomes v: what it was.");
        TwoKeys x = new TwoKeys();
        Bounds.due("a", x.slot(0, 255), 0);
        Bounds.due("h", x.slot(7, 255), 0);
        Bounds.due("a was", x.slot(0, 0), 255);
        Bounds.due("h is", x.at(7), 255);
        Bounds.due("b is", x.at(1), 0);
        Bounds.due("g is", x.at(6), 0);
        Bounds.says(8, "Refused: others, v not 0 .. 255.");
        String before = Bounds.look(x);
        int[][] refused = {{-1, 0}, {8, 0}, {9, 0}, {MIN, 0}, {MAX, 0}, {0, -1}, {0, 256}, {7, 256}, {7, MIN}, {7, MAX}, {8, 256}, {-1, -1}};
        for (int[] r : refused) {
            Bounds.due("slot(" + r[0] + ", " + r[1] + ")", x.slot(r[0], r[1]), TwoKeys.NONE);
        }
        Bounds.unchanged(x, before);
    }

    private static void speeds() {
        Bounds.says(9, "SPEED of a PART (one that is MOVING keeps its TENTHS): what it was.");
        TwoKeys x = Bounds.with(0, "", "m0:1;m3:1;?0");
        Bounds.due("A", x.speed(0, 15), 3);
        Bounds.due("A was", x.speed(0, 15), 15);
        x.step(0, 0);
        Bounds.due("to 0", x.speed(0, 0), 15);
        Bounds.due("it is MOVING on", x.at(8), 4);
        Bounds.due("its TENTHS", x.at(16), 15);
        Bounds.due("to 1", x.speed(0, 1), 0);
        Bounds.due("its TENTHS", x.at(16), 15);
        Bounds.due("D at 0", x.speed(3, 0), 3);
        x.step(0, 0);
        Bounds.due("D is there", x.at(11), 1);
        Bounds.due("A has one less", x.at(16), 14);
        Bounds.says(9, "Refused: others.");
        String before = Bounds.look(x);
        int[][] refused = {{-1, 1}, {4, 1}, {MIN, 1}, {MAX, 1}, {0, -1}, {0, 16}, {3, MIN}, {3, MAX}};
        for (int[] r : refused) {
            Bounds.due("speed(" + r[0] + ", " + r[1] + ")", x.speed(r[0], r[1]), TwoKeys.NONE);
        }
        Bounds.unchanged(x, before);
        int[] speeds = {1, 3, 3, 0};
        for (int part = 0; part < 4; part++) {
            Bounds.due("speed", x.speed(part, 15), speeds[part]);
        }
    }

    private static void keys() {
        Bounds.says(10, "KEYS are 1 .. k then: how many there were.");
        TwoKeys x = Bounds.with(2, "", "a=a+1");
        Bounds.due("4", x.keys(4), 2);
        Bounds.due("key 4", x.step(0, 4), 0);
        Bounds.due("0", x.keys(0), 4);
        Bounds.due("key 1", x.step(0, 1), TwoKeys.NONE);
        Bounds.due("none", x.step(0, 0), 0);
        Bounds.due("h stays", x.at(7), 4);
        Bounds.due("1", x.keys(1), 0);
        Bounds.due("key 1", x.step(0, 1), 0);
        Bounds.due("key 2", x.step(0, 2), TwoKeys.NONE);
        Bounds.says(10, "Refused: others.");
        String before = Bounds.look(x);
        for (int k : new int[] {-1, 5, 6, MIN, MAX}) {
            Bounds.due("keys(" + k + ")", x.keys(k), TwoKeys.NONE);
        }
        Bounds.unchanged(x, before);
    }

    // ---- promise 11

    private static void stepsRefused() {
        Bounds.says(11, "1 FIRED, 2 STOPPED, 3 and more: it SAID that less 3, else 0.");
        TwoKeys x = Bounds.with(2, "", "x;s0;s99;s1;a=1;?1;m0:1;j0:1");
        Bounds.due("FIRED", x.step(0, 0), 1);
        Bounds.due("SAID 0", x.step(0, 0), 3);
        Bounds.due("SAID 99", x.step(0, 0), 102);
        Bounds.due("SAID 1", x.step(0, 0), 4);
        for (int i = 0; i < 4; i++) {
            Bounds.due("else", x.step(0, 0), 0);
        }
        Bounds.bolt(x, "0");
        Bounds.due("STOPPED", x.step(0, 0), 2);
        Bounds.says(11, "Refused: no such TASK, KEY.");
        String before = Bounds.look(x);
        int[][] refused = {{1, 0}, {-1, 0}, {MIN, 0}, {MAX, 0}, {4, 0}, {0, 3}, {0, -1}, {0, 5}, {0, MIN}, {0, MAX}, {1, 3}};
        for (int[] r : refused) {
            Bounds.due("step(" + r[0] + ", " + r[1] + ")", x.step(r[0], r[1]), TwoKeys.NONE);
        }
        Bounds.unchanged(x, before);
        TwoKeys four = Bounds.with(4, "", "x", "x", "x", "x");
        Bounds.due("the last TASK, KEY", four.step(3, 4), 1);
        Bounds.due("a fifth TASK", four.step(4, 0), TwoKeys.NONE);
        Bounds.due("a fifth KEY", four.step(3, 5), TwoKeys.NONE);
        TwoKeys none = new TwoKeys();
        Bounds.due("no TASKS", none.step(0, 0), TwoKeys.NONE);
        Bounds.due("no STEP", none.count(10), 0);
    }

    private static void stepsThatGoRound() {
        Bounds.says(11, "the SLOT becomes that (its lowest 8 bits).");
        String[] values = {"255", "256", "257", "511", "512", "999", "-1", "-256", "-257", "-999", "0-1", "999+999", "255+1", "!0", "!7"};
        int[] due = {255, 0, 1, 255, 0, 231, 255, 0, 255, 25, 255, 206, 0, 1, 0};
        for (int i = 0; i < values.length; i++) {
            TwoKeys x = Bounds.with(0, "", "d=" + values[i]);
            x.step(0, 0);
            Bounds.due("d=" + values[i], x.at(3), due[i]);
            Bounds.due("c beside it", x.at(2), 0);
            Bounds.due("e beside it", x.at(4), 0);
        }
        TwoKeys y = Bounds.with(0, "", "a=a+1", "h=h-1");
        y.slot(0, 255);
        y.step(0, 0);
        Bounds.due("255 goes round", y.at(0), 0);
        y.step(1, 0);
        Bounds.due("0 goes round", y.at(7), 255);
        y.step(1, 0);
        Bounds.due("254", y.at(7), 254);
        Bounds.says(11, "A STEP: a KEY, or none, and a TASK: the KEY is typed first (SLOT h becomes it);");
        TwoKeys z = Bounds.with(4, "", "a=h", "h=9");
        z.step(0, 4);
        Bounds.due("typed ahead of the LINE", z.at(0), 4);
        z.step(1, 3);
        Bounds.due("the LINE is behind it", z.at(7), 9);
        z.step(0, 0);
        Bounds.due("with none h stays", z.at(7), 9);
    }

    private static void stepsOfLines() {
        Bounds.says(11, "? and an EXPRESSION: the TASK goes on, if it is not 0; else it stays at this LINE.");
        String[] values = {"0", "1", "-1", "256", "a", "!a", "1-1"};
        int[] line = {0, 1, 1, 1, 0, 1, 0};
        for (int i = 0; i < values.length; i++) {
            TwoKeys x = Bounds.with(0, "", "?" + values[i] + ";x");
            x.step(0, 0);
            Bounds.due("?" + values[i], x.at(20), line[i]);
        }
        TwoKeys alone = Bounds.with(0, "", "?1");
        alone.step(0, 0);
        Bounds.due("? alone", alone.at(20), 0);
        Bounds.says(11, "if that is not 0, the TASK goes to the LINE of that number (to LINE 0, if it has none such).");
        String[] jumps = {"j0:1", "j1:1", "j2:1", "j02:1", "j3:1", "j4:1", "j15:1", "j16:1", "j99:1", "j2:0", "j2:-1", "j2:256"};
        int[] to = {0, 1, 2, 2, 0, 0, 0, 0, 0, 1, 2, 2};
        for (int i = 0; i < jumps.length; i++) {
            TwoKeys x = Bounds.with(0, "", jumps[i] + ";a=1;b=1");
            x.step(0, 0);
            Bounds.due(jumps[i], x.at(20), to[i]);
        }
        TwoKeys last = Bounds.with(0, "", Bounds.times("x;", 15) + "j15:a");
        last.slot(0, 1);
        last.steps(2, 16, 0, 0);
        Bounds.due("LINE 15 of 16", last.at(20), 15);
        last.slot(0, 0);
        last.step(0, 0);
        Bounds.says(11, "Behind the last LINE a TASK is at LINE 0 again.");
        Bounds.due("a j that does not go", last.at(20), 0);
        TwoKeys z = Bounds.with(0, "", "a=1;?b", "s1", "x;x");
        z.step(0, 0);
        z.step(0, 0);
        Bounds.due("a ? that stays is not behind it", z.at(20), 1);
        z.slot(1, 1);
        z.step(0, 0);
        Bounds.due("behind it", z.at(20), 0);
        z.step(1, 0);
        Bounds.due("one LINE", z.at(21), 0);
        z.step(2, 0);
        Bounds.due("not yet", z.at(22), 1);
        z.step(2, 0);
        Bounds.due("behind it", z.at(22), 0);
    }

    private static void stepsOfParts() {
        Bounds.says(11, "the PART of that number, if it is not MOVING, begins to move to the PLACE of the lowest 2 bits: SPEED TENTHS");
        String[] values = {"1", "3", "4", "5", "7", "255", "256", "-1", "-3", "999"};
        int[] places = {1, 3, 0, 1, 3, 3, 0, 3, 1, 3};
        for (int i = 0; i < values.length; i++) {
            TwoKeys x = Bounds.with(0, "", "m2:" + values[i]);
            x.step(0, 0);
            Bounds.due("m2:" + values[i] + " comes to", x.at(14), places[i]);
            Bounds.due("TENTHS", x.at(18), places[i] == 0 ? 0 : 3);
        }
        TwoKeys m = Bounds.with(0, "", "m0:1;m0:2;m0:3;m0:3;m0:2;?0");
        m.steps(2, 3, 0, 0);
        Bounds.due("one that is MOVING goes where it went", m.at(12), 1);
        Bounds.due("TENTHS", m.at(16), 1);
        m.step(0, 0);
        Bounds.due("it was MOVING as the STEP began, and is there", m.at(8), 1);
        m.step(0, 0);
        Bounds.due("it begins anew", m.at(12), 2);
        Bounds.due("with all TENTHS", m.at(16), 3);
        Bounds.says(11, "(with SPEED 0, or if it is there already, it is there at once).");
        TwoKeys x = Bounds.with(0, "", "m0:3;m0:3;m1:0;m3:2");
        x.speed(0, 0);
        x.step(0, 0);
        Bounds.due("SPEED 0", x.at(8), 3);
        Bounds.due("TENTHS", x.at(16), 0);
        x.speed(0, 15);
        x.step(0, 0);
        Bounds.due("there already", x.at(8), 3);
        Bounds.due("TENTHS", x.at(16), 0);
        x.step(0, 0);
        Bounds.due("there at first", x.at(9), 0);
        x.speed(3, 15);
        x.step(0, 0);
        Bounds.due("SPEED 15", x.at(19), 15);
        Bounds.due("C beside it", x.at(14), 0);
        Bounds.says(11, "then each PART that was MOVING as the STEP began has a TENTH less, and is there with the last one.");
        TwoKeys y = Bounds.with(0, "", "m0:1;m3:2;?0");
        y.speed(0, 1);
        y.speed(3, 2);
        y.step(0, 0);
        Bounds.due("begun in this STEP: all TENTHS", y.at(16), 1);
        Bounds.due("MOVING", y.at(8), 4);
        y.step(0, 0);
        Bounds.due("with the last one", y.at(8), 1);
        Bounds.due("none left", y.at(16), 0);
        Bounds.due("D begun", y.at(19), 2);
        y.step(0, 0);
        Bounds.due("D, one left", y.at(19), 1);
        Bounds.due("D is MOVING", y.at(11), 4);
        y.step(0, 0);
        Bounds.due("D is there", y.at(11), 2);
        y.step(0, 0);
        Bounds.due("it stays there", y.at(11), 2);
        Bounds.due("none left", y.at(19), 0);
    }

    private static void stepsOfBolts() {
        Bounds.says(11, "if all BOLTS that are ON hold (are not 0), it is FIRED, else STOPPED.");
        TwoKeys x = Bounds.with(0, "", "x");
        Bounds.due("no BOLTS", x.step(0, 0), 1);
        Bounds.bolt(x, "-1");
        Bounds.bolt(x, "256");
        Bounds.due("below 0 and above 255 hold", x.step(0, 0), 1);
        Bounds.bolt(x, "a-1");
        Bounds.due("-1 holds", x.step(0, 0), 1);
        x.slot(0, 1);
        Bounds.due("0 does not", x.step(0, 0), 2);
        x.turn(2, false);
        Bounds.due("not ON", x.step(0, 0), 1);
        Bounds.says(11, "BOLTS are asked with F, P, S 0, W the TASK that fires.)");
        TwoKeys y = Bounds.with(0, "", "x;s7", "x", "x");
        Bounds.bolt(y, "!F&!P&!S&W=2");
        y.step(1, 0);
        Bounds.due("P 1 ahead", y.count(12), 1);
        Bounds.due("W 2", y.step(2, 0), 1);
        Bounds.due("F 1 ahead", y.step(2, 0), 1);
        y.step(0, 0);
        y.step(0, 0);
        Bounds.due("S 8 ahead", y.count(13), 8);
        Bounds.due("W 2", y.step(2, 0), 1);
        Bounds.due("W 1", y.step(1, 0), 2);
    }

    // ---- promise 12

    private static void sheets() {
        Bounds.says(12, "or a missing one (3): how many STEPS were done, till the first entry that is no NUMBER.");
        TwoKeys x = Bounds.with(2, "", "a=a+1", "b=b+1");
        Bounds.due("0 .. 5 and 6", x.steps(2, 20, 0, 1), 6);
        Bounds.due("STEPS", x.count(10), 6);
        Bounds.due("5 .. 0 and -1", x.steps(2, 20, 5, -1), 6);
        Bounds.due("the first is none", x.steps(2, 20, 6, -1), 0);
        Bounds.due("the first is none", x.steps(2, 20, -1, 1), 0);
        Bounds.due("STEPS", x.count(10), 12);
        Bounds.due("no entries", x.steps(2, 0, 0, 0), 0);
        Bounds.due("20 entries", x.steps(2, 20, 3, 0), 20);
        Bounds.due("b", x.at(1), 26);
        Bounds.due("no TASKS", new TwoKeys().steps(2, 5, 0, 0), 0);
        Bounds.says(12, "(of bytes, shorts the lowest bits, with their sign)");
        Bounds.due("256 as a byte", x.steps(0, 1, 256, 0), 1);
        Bounds.due("261 as a byte", x.steps(0, 1, 261, 0), 1);
        Bounds.due("262 as a byte", x.steps(0, 1, 262, 0), 0);
        Bounds.due("255 as a byte is -1", x.steps(0, 1, 255, 0), 0);
        Bounds.due("128 as a byte is -128", x.steps(0, 1, 128, 0), 0);
        Bounds.due("-256 as a byte", x.steps(0, 1, -256, 0), 1);
        Bounds.due("255, 256 as bytes", x.steps(0, 2, 255, 1), 0);
        Bounds.due("0, 256, 512 as bytes", x.steps(0, 3, 0, 256), 3);
        Bounds.due("65536 as a short", x.steps(1, 1, 65536, 0), 1);
        Bounds.due("65535 as a short is -1", x.steps(1, 1, 65535, 0), 0);
        Bounds.due("256 as a short", x.steps(1, 1, 256, 0), 0);
        Bounds.due("65541 as a short", x.steps(1, 1, 65541, 0), 1);
        Bounds.due("65536 as an int", x.steps(2, 1, 65536, 0), 0);
        Bounds.due("MIN and MIN as ints", x.steps(2, 3, 0, MIN), 1);
        Bounds.due("MIN as a byte", x.steps(0, 3, 0, MIN), 3);
        Bounds.due("MAX and 1 as a short", x.steps(1, 2, MAX, 1), 0);
        Bounds.says(12, "-2: n below 0 (of kinds 0 .. 2); -3: missing; NONE: another kind, n above 20 (these first).");
        TwoKeys y = Bounds.with(2, "", "a=a+1");
        String before = Bounds.look(y);
        for (int kind = 0; kind < 3; kind++) {
            Bounds.due("n -1", y.steps(kind, -1, 0, 0), -2);
            Bounds.due("n MIN", y.steps(kind, MIN, 0, 0), -2);
            Bounds.due("n 21", y.steps(kind, 21, 0, 0), TwoKeys.NONE);
            Bounds.due("n MAX", y.steps(kind, MAX, 9, 0), TwoKeys.NONE);
        }
        Bounds.due("missing", y.steps(3, 0, 0, 0), -3);
        Bounds.due("missing, n below 0", y.steps(3, -1, 0, 0), -3);
        Bounds.due("missing, n 20", y.steps(3, 20, 0, 0), -3);
        Bounds.due("n above 20 first", y.steps(3, 21, 0, 0), TwoKeys.NONE);
        for (int kind : new int[] {-1, 4, MIN, MAX}) {
            Bounds.due("another kind", y.steps(kind, 1, 0, 0), TwoKeys.NONE);
            Bounds.due("another kind first", y.steps(kind, -1, 0, 0), TwoKeys.NONE);
        }
        Bounds.unchanged(y, before);
        Bounds.says(12, "Its NUMBER: the TASK times (k and 1), and the KEY (0 for none).");
        y.keys(4);
        Bounds.due("4 of one TASK", y.steps(2, 1, 4, 0), 1);
        Bounds.due("key 4", y.at(7), 4);
        Bounds.due("5 of one TASK", y.steps(2, 1, 5, 0), 0);
        y.keys(0);
        Bounds.due("1 without KEYS", y.steps(2, 1, 1, 0), 0);
        Bounds.due("0 without KEYS", y.steps(2, 1, 0, 0), 1);
        Bounds.due("no KEY typed", y.at(7), 4);
        TwoKeys all = Bounds.with(4, "", "?0", "?0", "?0", "s1");
        Bounds.due("19 of four TASKS", all.steps(2, 1, 19, 0), 1);
        Bounds.due("TASK 3", all.count(14), 3);
        Bounds.due("KEY 4", all.at(7), 4);
        Bounds.due("20 of four TASKS", all.steps(2, 1, 20, 0), 0);
    }

    // ---- promises 13, 14

    private static void looks() {
        Bounds.says(13, "What 0 .. 7: SLOTS, 8 .. 11: PARTS (PLACE; 4 if MOVING), 12 .. 15: where these come to (the PLACE, if not MOVING), "
            + "16 .. 19: TENTHS left, 20 .. 23: LINES of TASKS (NONE for one that is not there).");
        TwoKeys x = Bounds.with(0, "", "m0:1;m3:3;?0", "?0");
        x.speed(0, 0);
        x.slot(0, 9);
        x.slot(7, 8);
        x.steps(2, 2, 0, 0);
        int[] due = {9, 0, 0, 0, 0, 0, 0, 8, 1, 0, 0, 4, 1, 0, 0, 3, 0, 0, 0, 3, 2, 0, -1, -1};
        for (int what = 0; what < due.length; what++) {
            Bounds.due("at(" + what + ")", x.at(what), due[what]);
        }
        Bounds.task(x, 2, "x;x");
        Bounds.task(x, 3, "x;x");
        x.step(3, 0);
        Bounds.due("at(22)", x.at(22), 0);
        Bounds.due("at(23)", x.at(23), 1);
        Bounds.says(13, "NoSuchElementException: another what.");
        String before = Bounds.look(x);
        for (int what : new int[] {-1, 24, 25, 32, MIN, MAX}) {
            Bounds.throwsAt(x, what);
        }
        Bounds.unchanged(x, before);
        Bounds.throwsAt(new TwoKeys(), 24);
    }

    private static void asks() {
        Bounds.says(14, "THE TEXT, which is empty then, as an ASKED EXPRESSION: the ROW: its value now; 0.");
        TwoKeys x = Bounds.with(2, "", "s99;x", "m0:3");
        Bounds.due("ask", Bounds.put(x, "999").ask(), 0);
        Bounds.due("signs", x.count(9), 0);
        Bounds.rowIs(x, 999);
        Bounds.due("below 0", Bounds.value(x, "-999-999"), -1998);
        Bounds.due("59 signs", Bounds.value(x, "999" + Bounds.times("+999", 14)), 15 * 999);
        Bounds.due("a SLOT at 255", askWithSlot(255, "a+a+a"), 765);
        Bounds.due("| gives 1", askWithSlot(255, "a|a"), 1);
        Bounds.due("& gives 1", askWithSlot(255, "a&-1"), 1);
        Bounds.due("! of 255", askWithSlot(255, "!a"), 0);
        Bounds.due("! of below 0", askWithSlot(1, "!-a"), 0);
        Bounds.due("< of even", askWithSlot(3, "a<3|a>3"), 0);
        Bounds.due("= of below 0", askWithSlot(3, "-a=0-3"), 1);
        Bounds.due("from the left", askWithSlot(3, "9-a-1+2"), 7);
        Bounds.due("! ahead of a thing binds most", askWithSlot(3, "!a+1"), 1);
        Bounds.due("| binds least", askWithSlot(3, "1|0&0"), 1);
        Bounds.due("& behind =", askWithSlot(3, "a=3&2"), 1);
        Bounds.due("< = > give 1", askWithSlot(3, "(a<9)+(a>1)+(a=3)"), 3);
        Bounds.due("| in ( )", askWithSlot(3, "(0|a)+!(0|0)"), 2);
        Bounds.due("& and + in ( )", askWithSlot(3, "9-(a+(2&a))"), 5);
        Bounds.due("- ahead of a thing in ( )", askWithSlot(3, "1+(2+(9+-(4+-a)))"), 11);
        Bounds.due("all that bind in ( ) five deep", askWithSlot(3, "0|1&1<1+(0|1&1<1+(0|1&1<1+(0|1&1<1+(0|1&1<1+(0|1&1<1+!0)))))"), 1);
        Bounds.says(14, "S (what was SAID in it, and 1; 0 if nothing was)");
        x.step(0, 0);
        Bounds.due("S", Bounds.value(x, "S"), 100);
        x.step(0, 0);
        Bounds.due("S", Bounds.value(x, "S"), 0);
        Bounds.due("F", Bounds.value(x, "F"), 1);
        x.step(1, 0);
        Bounds.due("F, P of a STEP that fires not", Bounds.value(x, "F|P"), 0);
        Bounds.due("W", Bounds.value(x, "W"), 1);
        Bounds.says(14, "A .. D (the PLACE of a PART, 4 if it is MOVING)");
        Bounds.due("A", Bounds.value(x, "A"), 4);
        x.steps(2, 3, 3, 0);
        Bounds.due("A", Bounds.value(x, "A"), 3);
        TwoKeys parts = Bounds.with(0, "", "m1:1;m2:2;m3:3;?0");
        parts.speed(1, 0);
        parts.speed(2, 0);
        parts.steps(2, 3, 0, 0);
        Bounds.due("A, B, C", Bounds.value(parts, "A+B+B+C+C+C"), 8);
        Bounds.due("D", Bounds.value(parts, "D"), 4);
        parts.steps(2, 3, 0, 0);
        Bounds.due("D", Bounds.value(parts, "D"), 3);
        Bounds.says(14, "-1 - p as task().");
        Bounds.value(x, "77");
        String before = Bounds.look(x);
        Bounds.due("an empty one", x.ask(), -1);
        Bounds.due("ends too early", Bounds.put(x, "a&").ask(), -3);
        Bounds.due("a wrong sign", Bounds.put(x, "a&x").ask(), -3);
        Bounds.due("61 signs", Bounds.put(x, Bounds.times("-", 60) + "1").ask(), -61);
        Bounds.due("wrong at 58 of 100 signs", Bounds.put(x, Bounds.times("-", 58) + Bounds.times(")", 42)).ask(), -59);
        Bounds.unchanged(x, before);
        Bounds.due("60 signs", Bounds.value(x, Bounds.times("-", 59) + "1"), -1);
    }

    private static long askWithSlot(int v, String t) {
        TwoKeys x = new TwoKeys();
        x.slot(0, v);
        return Bounds.value(x, t);
    }
}
