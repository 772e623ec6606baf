/** The boundary cases of promises 25 to 34: bolts, mends, a told typing. */
final class MendBounds {
    private static final int MIN = Bounds.MIN;
    private static final int MAX = Bounds.MAX;

    private MendBounds() {
    }

    static void test() {
        hids();
        hidsRefused();
        irons();
        patches();
        mends();
        mendsOfStates();
        drops();
        types();
        wipes();
        fits();
        manies();
        typingsOfStates();
        spares();
        sparesOfStates();
    }

    // ---- promise 25

    private static void hids() {
        Bounds.says(25, "The fewest STEPS, n at most, in the last of which a BOLT that is ON is the only one that does not hold as a TASK fires, "
            + "and MUST would BREAK, had it been FIRED (F 1, P 0, all else as it is behind that STEP); the ROW: they.");
        TwoKeys x = Bounds.with(0, "!F|a<19", "a=a+1", "x");
        Bounds.bolt(x, "a<19");
        Bounds.due("19", x.hid(0, 19), -2);
        Bounds.due("20", x.hid(0, 20), 20);
        long[] row = new long[20];
        row[19] = 1;
        Bounds.rowIs(x, row);
        Bounds.due("MUST holds, since it is STOPPED", x.never(20), -2);
        x.slot(0, 19);
        Bounds.due("0 STEPS", x.hid(0, 0), -2);
        Bounds.due("1", x.hid(0, 1), 1);
        Bounds.rowIs(x, 1);
        Bounds.bolt(x, "a<20");
        Bounds.due("another one that holds", x.hid(0, 1), 1);
        x.slot(0, 20);
        Bounds.due("another one that does not hold", x.hid(0, 9), -2);
        Bounds.due("nor the other", x.hid(1, 9), -2);
        x.turn(1, false);
        Bounds.due("which is not ON", x.hid(0, 9), 1);
        TwoKeys y = Bounds.with(0, "!P", "x");
        Bounds.bolt(y, "0");
        Bounds.due("P 0", y.hid(0, 9), -2);
        Bounds.must(y, "P|!F");
        Bounds.due("F 1, P 0", y.hid(0, 9), 1);
        Bounds.must(y, "!(F=1)");
        Bounds.due("F 1", y.hid(0, 9), 1);
        Bounds.must(y, "F&!P&!S&!W");
        Bounds.due("it would hold", y.hid(0, 9), -2);
        Bounds.must(y, "0");
        Bounds.due("it BREAKS in any case", y.hid(0, 9), 1);
        Bounds.must(y, "");
        Bounds.due("no MUST", y.hid(0, 9), -2);
        TwoKeys z = Bounds.with(1, "!F|A=4|h<1", "m0:1;?0", "x;?0", "x;?0");
        z.speed(0, 1);
        Bounds.bolt(z, "A<4");
        Bounds.due("A is there behind the STEP", z.hid(0, 9), 2);
        Bounds.rowIs(z, 0, 3);
        Bounds.must(z, "!F|W<2");
        Bounds.due("W is who fires", z.hid(0, 9), 2);
        Bounds.rowIs(z, 0, 4);
    }

    private static void hidsRefused() {
        Bounds.says(25, "-2: none;");
        TwoKeys x = Bounds.with(0, "!F", "x");
        Bounds.bolt(x, "1");
        Bounds.value(x, "77");
        String before = Bounds.look(x);
        Bounds.due("none", x.hid(0, 20), -2);
        Bounds.unchanged(x, before);
        Bounds.says(25, "-3; NONE: as all(), no such BOLT, not ON.");
        RunBounds.noneAsAll((o, n) -> o.hid(0, n));
        RunBounds.tooManyStates("0", -2, (o, n) -> o.hid(0, n));
        for (int bolt : new int[] {1, 2, 3, 32, -1, -32, MIN, MAX}) {
            Bounds.due("hid(" + bolt + ")", x.hid(bolt, 3), TwoKeys.NONE);
        }
        Bounds.unchanged(x, before);
        x.turn(0, false);
        Bounds.due("not ON", x.hid(0, 3), TwoKeys.NONE);
        Bounds.bolt(x, "0");
        Bounds.bolt(x, "1");
        Bounds.due("the second", x.hid(1, 3), 1);
        Bounds.due("the third", x.hid(2, 3), -2);
        Bounds.due("the first is not ON", x.hid(0, 3), TwoKeys.NONE);
        TwoKeys many = Bounds.with4001("");
        Bounds.due("no such BOLT ahead of too many STATES", many.hid(0, 16), TwoKeys.NONE);
        Bounds.bolt(many, "0");
        many.turn(0, false);
        Bounds.due("not ON ahead of too many STATES", many.hid(0, 16), TwoKeys.NONE);
    }

    // ---- promise 26

    private static void irons() {
        Bounds.says(26, "The fewest BOLTS (all told, ON or not) that have to be ON so that MUST holds in all RUNS of n STEPS; "
            + "the ROW: they as bits, of as few the least.");
        TwoKeys x = Bounds.with(0, "!F", "?0;x", "x", "x", "x");
        Bounds.due("no BOLTS, 0 STEPS", x.iron(0), 0);
        Bounds.rowIs(x, 0);
        Bounds.due("no BOLTS, 1 STEP", x.iron(1), -2);
        Bounds.bolt(x, "!(W=1)");
        Bounds.bolt(x, "!(W=2)");
        Bounds.bolt(x, "!(W=3)");
        for (int bolt = 0; bolt < 3; bolt++) {
            x.turn(bolt, false);
        }
        Bounds.due("all three, though none is ON", x.iron(20), 3);
        Bounds.rowIs(x, 7);
        Bounds.due("none is ON", x.count(3), 0);
        x.turn(1, true);
        Bounds.task(x, 1, "?0");
        Bounds.due("two", x.iron(20), 2);
        Bounds.rowIs(x, 6);
        Bounds.due("one is ON", x.count(3), 2);
        Bounds.task(x, 2, "?0");
        Bounds.due("one, the last", x.iron(20), 1);
        Bounds.rowIs(x, 4);
        Bounds.task(x, 3, "?0");
        Bounds.due("none", x.iron(20), 0);
        Bounds.rowIs(x, 0);
        TwoKeys y = Bounds.with(0, "!F", "x", "x");
        Bounds.bolt(y, "W");
        Bounds.bolt(y, "!W");
        Bounds.due("two of two", y.iron(9), 2);
        Bounds.rowIs(y, 3);
        Bounds.bolt(y, "0");
        Bounds.due("one ahead of two", y.iron(9), 1);
        Bounds.rowIs(y, 4);
        TwoKeys z = Bounds.with(0, "!F", "x");
        Bounds.bolt(z, "1");
        Bounds.bolt(z, "0");
        Bounds.bolt(z, "0");
        Bounds.due("of as few the least", z.iron(9), 1);
        Bounds.rowIs(z, 2);
        Bounds.says(26, "-2: all of them do not do;");
        Bounds.must(z, "!F&!P");
        String before = Bounds.look(z);
        Bounds.due("none does", z.iron(9), -2);
        Bounds.unchanged(z, before);
        Bounds.says(26, "-3 (in one that is tried: by how many, then by bits, till one does); NONE: as all().");
        RunBounds.tooManyStates("", 0, TwoKeys::iron);
        RunBounds.tooManyStates("a<1", -2, TwoKeys::iron);
        RunBounds.noneAsAll(TwoKeys::iron);
    }

    // ---- promises 27 to 29

    private static void patches() {
        Bounds.says(27, "THE TEXT, which is empty then, is a PATCH: a LINE in place of a TASK's LINE: its number;");
        TwoKeys x = Bounds.with(0, "", "a=1;x");
        Bounds.due("the first", Bounds.patch(x, 0, 0, "a=2"), 0);
        Bounds.due("signs", x.count(9), 0);
        Bounds.says(27, "PATCHES (at most 5): of a TASK's LINE, another LINE in its place.");
        for (int i = 1; i < 5; i++) {
            Bounds.due("one more", Bounds.patch(x, 0, i % 2, "s1"), i);
        }
        Bounds.due("a sixth", Bounds.patch(x, 0, 0, "s1"), -100);
        Bounds.due("patches", x.count(4), 5);
        x.step(0, 0);
        Bounds.due("they change no PROGRAM", x.at(0), 1);
        Bounds.says(27, "-100: no such TASK, LINE, 5 (asked first).");
        String before = Bounds.look(x);
        Bounds.due("5, ahead of a wrong text", Bounds.patch(x, 0, 0, "q"), -100);
        Bounds.due("5, ahead of an empty text", x.patch(0, 0), -100);
        Bounds.due("signs", x.count(9), 0);
        Bounds.unchanged(x, before);
        TwoKeys y = Bounds.with(0, "", "a=1;x", Bounds.times("x;", 15) + "x");
        before = Bounds.look(y);
        int[][] refused = {{2, 0}, {3, 0}, {4, 0}, {-1, 0}, {MIN, 0}, {MAX, 0}, {0, 2}, {0, 15}, {0, -1}, {1, 16}, {1, MIN}, {1, MAX}};
        for (int[] r : refused) {
            Bounds.due("patch(" + r[0] + ", " + r[1] + ")", Bounds.patch(y, r[0], r[1], "x"), -100);
        }
        Bounds.due("ahead of a wrong text", Bounds.patch(y, 0, 2, "q"), -100);
        Bounds.due("signs", y.count(9), 0);
        Bounds.unchanged(y, before);
        Bounds.due("no TASKS", Bounds.patch(new TwoKeys(), 0, 0, "x"), -100);
        TwoKeys four = Bounds.with(0, "", "x", "x", "x", "x");
        Bounds.due("a fifth TASK", Bounds.patch(four, 4, 0, "x"), -100);
        Bounds.due("the fourth", Bounds.patch(four, 3, 0, "x"), 0);
        Bounds.says(27, "-1 - p as task() (a ; can't stand);");
        Bounds.due("a ;", Bounds.patch(y, 0, 0, "x;x"), -2);
        Bounds.due("a ; at the end", Bounds.patch(y, 0, 0, "a=1;"), -4);
        Bounds.due("an empty one", y.patch(0, 0), -1);
        Bounds.due("ends too early", Bounds.patch(y, 0, 0, "m1"), -3);
        Bounds.due("no ASKED one", Bounds.patch(y, 0, 0, "?W"), -2);
        Bounds.due("61 signs", Bounds.patch(y, 0, 0, "?" + Bounds.times("!", 59) + "1"), -61);
        Bounds.due("wrong at 60 of 60 signs", Bounds.patch(y, 0, 0, "?" + Bounds.times("!", 57) + "1;"), -60);
        Bounds.due("signs", y.count(9), 0);
        Bounds.unchanged(y, before);
        Bounds.due("60 signs", Bounds.patch(y, 0, 0, "?" + Bounds.times("!", 58) + "1"), 0);
        Bounds.due("the last LINE of 16", Bounds.patch(y, 1, 15, "x"), 1);
    }

    private static void mends() {
        Bounds.says(28, "The fewest PATCHES");
        TwoKeys x = Bounds.with(0, "!F", "x;x;x;x;x");
        Bounds.due("no PATCHES, 0 STEPS", x.mend(0), 0);
        Bounds.rowIs(x, 0);
        Bounds.due("no PATCHES", x.mend(1), -2);
        for (int line = 0; line < 5; line++) {
            Bounds.patch(x, 0, line, "s1");
        }
        for (int n = 0; n <= 5; n++) {
            Bounds.due("n " + n, x.mend(n), n);
            Bounds.rowIs(x, (1 << n) - 1);
        }
        Bounds.due("all five", x.mend(20), 5);
        Bounds.rowIs(x, 31);
        Bounds.due("the PROGRAM is as it was", x.never(1), 1);
        Bounds.due("patches", x.count(4), 5);
        Bounds.says(28, "(the one told later in place of one told ahead of the same LINE;");
        TwoKeys y = Bounds.with(0, "!F&a<1", "x;a=1");
        Bounds.patch(y, 0, 0, "s1");
        Bounds.patch(y, 0, 1, "x");
        Bounds.patch(y, 0, 0, "x");
        Bounds.patch(y, 0, 1, "s2");
        Bounds.due("the first and the fourth", y.mend(4), 2);
        Bounds.rowIs(y, 9);
        TwoKeys later = Bounds.with(0, "!F&!(S=2)", "x;a=1");
        Bounds.patch(later, 0, 0, "s1");
        Bounds.patch(later, 0, 0, "x");
        Bounds.due("neither, nor both: the later one fires", later.mend(4), -2);
        Bounds.must(later, "S=2|a|W");
        Bounds.patch(later, 0, 1, "?1");
        Bounds.due("the one told ahead", later.mend(1), 1);
        Bounds.rowIs(later, 1);
        Bounds.says(28, "those whose LINE is not there any more do nothing)");
        TwoKeys z = Bounds.with(0, "!F", "s1;s1;x", "?0");
        Bounds.patch(z, 0, 2, "s1");
        Bounds.due("it mends", z.mend(9), 1);
        Bounds.task(z, 0, "s1;x");
        Bounds.due("it does nothing", z.mend(9), -2);
        Bounds.task(z, 0, "s1;s2");
        Bounds.due("none is needed", z.mend(9), 0);
        Bounds.task(z, 0, "s1;s1;x;s1");
        Bounds.due("the LINE is there again", z.mend(9), 1);
        Bounds.rowIs(z, 1);
        Bounds.says(28, "with which MUST holds in all RUNS of n STEPS; the ROW: they as bits, of as few the least.");
        TwoKeys w = Bounds.with(0, "!F", "x");
        Bounds.patch(w, 0, 0, "x");
        Bounds.patch(w, 0, 0, "s1");
        Bounds.patch(w, 0, 0, "s2");
        Bounds.due("of as few the least", w.mend(20), 1);
        Bounds.rowIs(w, 2);
        Bounds.due("0 STEPS", w.mend(0), 0);
        Bounds.rowIs(w, 0);
        TwoKeys jump = Bounds.with(0, "!F", "s1;?0;x");
        Bounds.patch(jump, 0, 1, "j3:1");
        Bounds.task(jump, 0, "s1;s1;x");
        Bounds.due("a j goes by the LINES of the TASK", jump.mend(20), 1);
        Bounds.says(28, "-2: none do;");
        Bounds.must(w, "0");
        String before = Bounds.look(w);
        Bounds.due("none do", w.mend(20), -2);
        Bounds.unchanged(w, before);
    }

    private static void mendsOfStates() {
        Bounds.says(28, "-3 as iron(); NONE: as all().");
        RunBounds.tooManyStates("", 0, TwoKeys::mend);
        RunBounds.tooManyStates("a<1", -2, TwoKeys::mend);
        RunBounds.noneAsAll(TwoKeys::mend);
        // with one counter more 16 STEPS come to 4845 STATES, else to 969
        TwoKeys x = Bounds.with(0, "!F", "x", "b=b+1", "c=c+1", "d=d+1");
        Bounds.patch(x, 0, 0, "s1");
        Bounds.patch(x, 0, 0, "a=a+1");
        Bounds.due("the first does, the second is not tried", x.mend(16), 1);
        Bounds.rowIs(x, 1);
        x.drop();
        Bounds.patch(x, 0, 0, "a=a+1");
        Bounds.patch(x, 0, 0, "s1");
        Bounds.due("in the first, though the second does", x.mend(16), -3);
        Bounds.rowIs(x, 1);
        Bounds.due("3876 in 15 STEPS", x.mend(15), 1);
        Bounds.due("the PROGRAM is as it was", x.never(1), 1);
        TwoKeys y = Bounds.with(0, "!F", "?0;?0", "b=b+1", "c=c+1", "d=d+1;x");
        Bounds.patch(y, 0, 0, "a=a+1");
        Bounds.patch(y, 0, 1, "j0:1");
        Bounds.patch(y, 3, 1, "s1");
        Bounds.due("one that does ahead of two that have too many", y.mend(16), 1);
        Bounds.rowIs(y, 4);
        Bounds.task(y, 3, "x;d=d+1");
        Bounds.due("two that have too many", y.mend(16), -3);
        Bounds.due("in 14 STEPS not too many, but none do", y.mend(14), -2);
    }

    private static void drops() {
        Bounds.says(29, "All PATCHES go: how many.");
        TwoKeys x = Bounds.with(0, "!F", "x");
        Bounds.due("none", x.drop(), 0);
        for (int i = 0; i < 5; i++) {
            Bounds.patch(x, 0, 0, "s1");
        }
        Bounds.due("five", x.drop(), 5);
        Bounds.due("none are left", x.drop(), 0);
        Bounds.due("patches", x.count(4), 0);
        Bounds.due("none mends", x.mend(1), -2);
        Bounds.due("there is room again", Bounds.patch(x, 0, 0, "s1"), 0);
    }

    // ---- promises 30, 31

    private static void types() {
        Bounds.says(30, "A KEY (0: none) comes to the end of TYPING: how many.");
        TwoKeys x = new TwoKeys();
        x.keys(0);
        for (int i = 1; i <= 8; i++) {
            Bounds.due("type", x.type(i > 4 ? i - 4 : 0), i);
        }
        Bounds.says(30, "Refused: others (0 .. 4), 8.");
        String before = Bounds.look(x);
        Bounds.due("a ninth", x.type(1), TwoKeys.NONE);
        Bounds.due("a ninth", x.type(0), TwoKeys.NONE);
        Bounds.unchanged(x, before);
        TwoKeys y = new TwoKeys();
        for (int key : new int[] {-1, 5, MIN, MAX}) {
            Bounds.due("type(" + key + ")", y.type(key), TwoKeys.NONE);
        }
        Bounds.due("keys of TYPING", y.count(5), 0);
        Bounds.says(30, "TYPING: a row of at most 8 KEYS (or none), one a STEP;");
        TwoKeys z = Bounds.with(4, "!(a=h)|!(a=4)", "a=a+1");
        for (int key : new int[] {0, 4, 0, 1, 0, 0, 0, 4}) {
            z.type(key);
        }
        z.slot(0, 252);
        Bounds.due("in the eighth", z.fits(), 1);
        Bounds.rowIs(z, new long[8]);
    }

    private static void wipes() {
        Bounds.says(31, "TYPING is empty then: how many it had.");
        TwoKeys x = Bounds.with(2, "", "x");
        Bounds.due("none", x.wipe(), 0);
        for (int i = 0; i < 8; i++) {
            x.type(0);
        }
        Bounds.due("eight", x.wipe(), 8);
        Bounds.due("none are left", x.wipe(), 0);
        Bounds.due("keys of TYPING", x.count(5), 0);
        Bounds.due("no TYPING", x.fits(), TwoKeys.NONE);
        Bounds.due("the first again", x.type(2), 1);
    }

    // ---- promises 32, 33

    private static void fits() {
        Bounds.says(32, "Whether with TYPING, KEY by KEY (those above k are none), there are TASKS, one a STEP, "
            + "with which MUST BREAKS in the last STEP for the first time: the ROW: these TASKS; 1; 0: none.");
        TwoKeys x = Bounds.with(4, "!(h=4)", "?0", "?0");
        x.type(4);
        Bounds.due("KEY 4 of 4", x.fits(), 1);
        Bounds.rowIs(x, 0);
        x.keys(3);
        Bounds.due("KEY 4 of 3", x.fits(), 0);
        Bounds.rowIs(x, 0);
        x.slot(7, 4);
        Bounds.due("none: h stays", x.fits(), 1);
        x.keys(4);
        x.type(0);
        Bounds.due("not for the first time", x.fits(), 0);
        TwoKeys y = Bounds.with(1, "!F", "?h", "s1", "?h;x");
        for (int key : new int[] {0, 1, 0}) {
            y.type(key);
        }
        Bounds.due("the last by one way alone", y.fits(), 1);
        Bounds.rowIs(y, 0, 2, 2);
        y.type(0);
        Bounds.due("the first by numbers", y.fits(), 1);
        Bounds.rowIs(y, 0, 0, 2, 2);
        Bounds.must(y, "!F&!(S=2)");
        Bounds.due("those that broke it ahead do not go on", y.fits(), 1);
        Bounds.rowIs(y, 0, 0, 0, 1);
        Bounds.must(y, "!P");
        String before = Bounds.look(y);
        Bounds.due("none", y.fits(), 0);
        Bounds.must(y, "");
        Bounds.due("no MUST", y.fits(), 0);
        Bounds.unchanged(y, before);
        Bounds.says(32, "-3; NONE: no TASKS, no TYPING.");
        noneAsFits(TwoKeys::fits);
        TwoKeys e = shifting("!(h&b=1&a<96)");
        Bounds.due("3999 STATES", e.fits(), 1);
        tooManyTyped(TwoKeys::fits);
    }

    private interface Call {
        int of(TwoKeys x);
    }

    private static void noneAsFits(Call call) {
        TwoKeys x = Bounds.with(2, "!F", "x");
        Bounds.value(x, "77");
        String before = Bounds.look(x);
        Bounds.due("no TYPING", call.of(x), TwoKeys.NONE);
        Bounds.unchanged(x, before);
        x.type(0);
        Bounds.yes("a TYPING of none alone", call.of(x) != TwoKeys.NONE);
        TwoKeys none = new TwoKeys();
        none.type(1);
        Bounds.value(none, "77");
        before = Bounds.look(none);
        Bounds.due("no TASKS", call.of(none), TwoKeys.NONE);
        Bounds.unchanged(none, before);
    }

    /** Where MUST never breaks eight STEPS have 4095 STATES behind them, each less for one in which it breaks. */
    private static TwoKeys shifting(String must) {
        TwoKeys x = Bounds.with(1, must, "a=a+a", "a=a+a+1", "b=b+b", "b=b+b+1");
        x.slot(0, 1);
        x.slot(1, 1);
        for (int i = 1; i <= 8; i++) {
            x.type(i / 8);
        }
        return x;
    }

    private static void tooManyTyped(Call call) {
        TwoKeys x = shifting("!(h&b=1&a<95)");
        Bounds.value(x, "77");
        String before = Bounds.look(x);
        Bounds.due("4000 STATES", call.of(x), -3);
        Bounds.unchanged(x, before);
    }

    private static void manies() {
        Bounds.says(33, "By how many rows of TASKS it does so: the ROW: these, all; 0.");
        TwoKeys x = Bounds.with(0, "!F", "x", "?0", "?0", "s1");
        x.type(0);
        Bounds.due("one STEP", x.many(), 0);
        Bounds.rowIs(x, 1, 4);
        for (int i = 1; i < 8; i++) {
            x.type(4);
        }
        Bounds.due("eight STEPS", x.many(), 0);
        Bounds.rowIs(x, 2187, 65536);
        Bounds.must(x, "0");
        Bounds.due("not for the first time", x.many(), 0);
        Bounds.rowIs(x, 0, 65536);
        Bounds.must(x, "");
        Bounds.due("no MUST", x.many(), 0);
        Bounds.rowIs(x, 0, 65536);
        TwoKeys all = Bounds.with(1, "h<1", "?0", "?0");
        all.type(1);
        Bounds.due("all", all.many(), 0);
        Bounds.rowIs(all, 2, 2);
        Bounds.says(33, "-3; NONE as fits().");
        noneAsFits(TwoKeys::many);
        TwoKeys e = shifting("!(h&b=1&a<96)");
        Bounds.due("3999 STATES", e.many(), 0);
        tooManyTyped(TwoKeys::many);
    }

    private static void typingsOfStates() {
        Bounds.says(32, "it is gone through STEP by STEP, of each STEP the STATES behind it that some row of TASKS comes to "
            + "without MUST having broken, each once: if all STEPS together have more than 3999, -3 likewise.");
        TwoKeys x = shifting("a<255|b<255");
        Bounds.due("4095 STATES", x.fits(), -3);
        x.wipe();
        for (int i = 0; i < 7; i++) {
            x.type(0);
        }
        Bounds.due("1792 STATES behind seven STEPS", x.fits(), 0);
        TwoKeys broken = shifting("!(a=3)&!(a=2)");
        Bounds.due("what comes behind a break is not gone through", broken.many(), 0);
        Bounds.rowIs(broken, 128L * 2, 65536);
    }

    // ---- promise 34

    private static void spares() {
        Bounds.says(34, "The fewest KEYS (not none) that would have to be left out of TYPING (none typed instead) so that "
            + "no TASKS make MUST BREAK in any of its STEPS; the ROW: their places as bits, of as few the least.");
        TwoKeys x = Bounds.with(4, "h<1", "?0");
        for (int i = 0; i < 8; i++) {
            x.type(1 + i % 4);
        }
        Bounds.due("all eight", x.spare(), 8);
        Bounds.rowIs(x, 255);
        Bounds.must(x, "!(h=2)");
        Bounds.due("the second and the sixth", x.spare(), 2);
        Bounds.rowIs(x, 2 + 32);
        x.keys(1);
        Bounds.due("KEYS above k are none", x.spare(), 0);
        Bounds.rowIs(x, 0);
        x.keys(4);
        Bounds.must(x, "");
        Bounds.due("no MUST", x.spare(), 0);
        TwoKeys y = Bounds.with(2, "!F", "?h=1;?h=2;x");
        for (int key : new int[] {1, 2, 0}) {
            y.type(key);
        }
        Bounds.due("of as few the least", y.spare(), 1);
        Bounds.rowIs(y, 1);
        y.wipe();
        for (int key : new int[] {0, 1, 1, 2, 0}) {
            y.type(key);
        }
        Bounds.due("one ahead of two", y.spare(), 1);
        Bounds.rowIs(y, 8);
        y.type(0);
        y.type(2);
        y.type(0);
        Bounds.due("two of as few the least", y.spare(), 2);
        Bounds.rowIs(y, 6);
        TwoKeys stays = Bounds.with(2, "!(h=1&a=2)", "a=a+1");
        stays.type(1);
        stays.type(2);
        Bounds.due("KEY 1 is not there any more", stays.spare(), 0);
        TwoKeys none = Bounds.with(2, "!F|h=1", "x");
        none.type(1);
        none.type(0);
        Bounds.due("it would BREAK with all left out, but none have to be", none.spare(), 0);
        Bounds.rowIs(none, 0);
        Bounds.says(34, "-2: it BREAKS with all left out;");
        Bounds.must(none, "!F");
        String before = Bounds.look(none);
        Bounds.due("in any case", none.spare(), -2);
        Bounds.unchanged(none, before);
        TwoKeys zeros = Bounds.with(2, "!F", "x");
        zeros.type(0);
        Bounds.due("there are none to leave out", zeros.spare(), -2);
    }

    private static void sparesOfStates() {
        Bounds.says(34, "-3 as iron(); NONE as fits().");
        noneAsFits(TwoKeys::spare);
        tooManyTyped(TwoKeys::spare);
        TwoKeys e = shifting("!(h&b=1&a<96)");
        Bounds.due("3999 STATES as typed, 4095 with the KEY left out", e.spare(), -3);
        // while h is 1 the counters grow into too many STATES, else they stay 0
        TwoKeys x = growing("(h=1)", "e=e|h=1", "!(e&h=2)", 1, 2, 0, 0, 0, 0, 0, 0);
        Bounds.due("the first left out does, the second is not tried", x.spare(), 1);
        Bounds.rowIs(x, 1);
        x.wipe();
        for (int i = 0; i < 8; i++) {
            x.type(i == 0 ? 1 : 0);
        }
        Bounds.due("the second left out has too many", x.fits(), -3);
        TwoKeys y = growing("(h=0)", "b=b+b+b+(h=0)", "!(h=2&a=0)", 1, 0, 0, 0, 0, 0, 0, 2);
        Bounds.value(y, "77");
        String before = Bounds.look(y);
        Bounds.due("the first left out has too many, though the last left out does", y.spare(), -3);
        Bounds.unchanged(y, before);
        y.wipe();
        for (int i = 0; i < 8; i++) {
            y.type(i == 0 ? 1 : 0);
        }
        Bounds.due("the last left out", y.spare(), 0);
    }

    private static TwoKeys growing(String when, String fourth, String must, int... typed) {
        TwoKeys x = Bounds.with(2, must, "a=a+a+" + when, "b=b+a+a+" + when, "a=a+b+b+" + when, fourth);
        for (int key : typed) {
            x.type(key);
        }
        return x;
    }
}
