/** The boundary cases of promises 15 to 24: all runs. */
final class RunBounds {
    private static final int MIN = Bounds.MIN;
    private static final int MAX = Bounds.MAX;
    private static final String TOO_MANY_STATES = "if those that RUNS of at most n STEPS come to are more than 4000, -3 is answered "
        + "(whatever else but NONE; the ROW stays).";

    /** A call that goes through RUNS of n STEPS. */
    interface Call {
        int of(TwoKeys x, int n);
    }

    private RunBounds() {
    }

    static void test() {
        alls();
        nevers();
        reaches();
        reachesOfTexts();
        stucks();
        runs();
        weights();
        odds();
        oddsOfNoWeight();
        quicks();
        rounds();
        roundsOfStates();
        means();
    }

    /** NONE for an n that is not 0 .. 20 and with no TASKS, and nothing changes; else another answer. */
    static void noneAsAll(Call call) {
        TwoKeys x = Bounds.with(0, "a<1", "?0;x");
        Bounds.bolt(x, "0");
        Bounds.value(x, "77");
        String before = Bounds.look(x);
        for (int n : new int[] {-1, 21, 22, MIN, MAX}) {
            Bounds.due("n " + n, call.of(x, n), TwoKeys.NONE);
        }
        Bounds.unchanged(x, before);
        Bounds.yes("n 0", call.of(x, 0) != TwoKeys.NONE);
        Bounds.yes("n 20", call.of(x, 20) != TwoKeys.NONE);
        TwoKeys none = new TwoKeys();
        Bounds.bolt(none, "0");
        Bounds.value(none, "77");
        before = Bounds.look(none);
        for (int n : new int[] {0, 1, 20, 21}) {
            Bounds.due("no TASKS, n " + n, call.of(none, n), TwoKeys.NONE);
        }
        Bounds.unchanged(none, before);
    }

    /** At 4000 STATES the answer that is told, at 4001 -3. */
    static void tooManyStates(String must, int due, Call call) {
        TwoKeys x = Bounds.with4000(must);
        Bounds.bolt(x, "0");
        Bounds.due("4000 STATES", call.of(x, 16), due);
        TwoKeys y = Bounds.with4001(must);
        Bounds.bolt(y, "0");
        Bounds.yes("fewer with n 15", call.of(y, 15) != -3);
        Bounds.value(y, "77");
        String before = Bounds.look(y);
        Bounds.due("4001 STATES", call.of(y, 16), -3);
        Bounds.unchanged(y, before);
    }

    // ---- promises 15, 16

    private static void alls() {
        Bounds.says(15, "How many STATES RUNS of at most n STEPS come to (that of now is one).");
        TwoKeys x = Bounds.with(4, "", "?0");
        Bounds.due("n 0", x.all(0), 1);
        Bounds.due("none and four KEYS", x.all(1), 5);
        Bounds.due("each once", x.all(20), 5);
        x.step(0, 4);
        Bounds.due("from the STATE of now", x.all(20), 4);
        TwoKeys round = Bounds.with(0, "", "a=a+128;b=b+64;b=b+192");
        Bounds.due("it goes round to the STATE of now", round.all(20), 6);
        Bounds.says(15, "The STATE: SLOTS, PARTS, LINES of TASKS.");
        Bounds.due("SLOTS", Bounds.with(0, "", "h=1").all(9), 2);
        Bounds.due("TENTHS and PLACES", Bounds.with(0, "", "m3:1;?0").all(9), 5);
        Bounds.due("LINES", Bounds.with(0, "", "s1;x", "s1;s2;x").all(9), 6);
        Bounds.due("not what was SAID, FIRED", Bounds.with(0, "", "x", "s1", "s2").all(9), 1);
        TwoKeys to = Bounds.with(0, "", "m0:a;?0", "a=3-a");
        to.slot(0, 1);
        Bounds.due("where a PART comes to", to.all(3), 10);
        Bounds.says(15, "RUNS of n STEPS (n 0 .. 20): all rows of STEPS from the STATE of now");
        Bounds.due("20", Bounds.with(0, "", "a=a+1").all(20), 21);
        Bounds.says(15, TOO_MANY_STATES);
        Bounds.due("4000", Bounds.counted4000(), 4000);
        tooManyStates("", 4000, TwoKeys::all);
        TwoKeys widest = Bounds.with(4, "", Bounds.capped('a', 4), Bounds.capped('b', 4), Bounds.capped('c', 3), Bounds.capped('d', 7));
        // a KEY comes with a count, so that four of 5 times 800 are not come to
        Bounds.due("3996 STATES with 20 STEPS from each", widest.all(20), 3996);
        Bounds.says(15, "-3; NONE: n not 0 .. 20, no TASKS.");
        noneAsAll(TwoKeys::all);
        Bounds.due("NONE, though there are too many STATES", Bounds.with4001("").all(21), TwoKeys.NONE);
        Bounds.due("20, too many STATES", Bounds.with4001("").all(20), -3);
    }

    private static void nevers() {
        Bounds.says(16, "The fewest STEPS, n at most, in the last of which MUST BREAKS; the ROW: they.");
        TwoKeys x = Bounds.with(0, "a<20", "a=a+1");
        Bounds.due("19", x.never(19), -2);
        Bounds.due("20", x.never(20), 20);
        Bounds.rowIs(x, new long[20]);
        Bounds.must(x, "a<21");
        Bounds.due("21 are more than n", x.never(20), -2);
        Bounds.rowIs(x, new long[20]);
        Bounds.must(x, "0");
        Bounds.due("0 STEPS, though it is 0 now", x.never(0), -2);
        Bounds.due("1", x.never(1), 1);
        Bounds.rowIs(x, 0);
        Bounds.says(16, "it BREAKS in a STEP behind which it is 0.");
        TwoKeys y = Bounds.with(0, "a-1", "a=a+1");
        Bounds.due("-1 is not 0, 0 is", y.never(5), 1);
        Bounds.must(y, "a-3");
        Bounds.due("-2, -1, 0", y.never(5), 3);
        y.slot(0, 255);
        Bounds.must(y, "a");
        Bounds.due("255 goes round", y.never(5), 1);
        Bounds.says(16, "of several as short the first by numbers.");
        TwoKeys z = Bounds.with(4, "!F", "?h=4;x", "?h=3;x");
        Bounds.due("two", z.never(9), 2);
        Bounds.rowIs(z, 4, 0);
        Bounds.task(z, 0, "?0");
        Bounds.due("two", z.never(9), 2);
        Bounds.rowIs(z, 8, 5);
        TwoKeys w = Bounds.with(0, "a<1|b<1", "a=1", "b=1");
        Bounds.due("either way", w.never(9), 2);
        Bounds.rowIs(w, 0, 1);
        Bounds.says(16, "-2: it holds in all RUNS of n;");
        Bounds.must(w, "1");
        String before = Bounds.look(w);
        Bounds.due("it holds", w.never(20), -2);
        Bounds.must(w, "");
        Bounds.due("there is none", w.never(20), -2);
        Bounds.unchanged(w, before);
        Bounds.says(16, "-3; NONE: as all().");
        tooManyStates("a<1", 1, TwoKeys::never);
        noneAsAll(TwoKeys::never);
    }

    // ---- promise 17

    private static void reaches() {
        Bounds.says(17, "The fewest STEPS (0: as it is now), n at most, behind which THE TEXT (empty then), as an ASKED EXPRESSION, is not 0; the ROW: they.");
        TwoKeys x = Bounds.with(0, "", "a=a+1", "s5");
        Bounds.due("20", Bounds.reach(x, 20, "a=20"), 20);
        Bounds.rowIs(x, new long[20]);
        Bounds.due("19 are fewer", Bounds.reach(x, 19, "a=20"), -2);
        Bounds.due("signs", x.count(9), 0);
        Bounds.due("as it is now", Bounds.reach(x, 20, "a=0"), 0);
        Bounds.rowIs(x);
        Bounds.due("as it is now, n 0", Bounds.reach(x, 0, "-1"), 0);
        Bounds.due("not as it is now", Bounds.reach(x, 0, "a"), -2);
        Bounds.due("below 0 is not 0", Bounds.reach(x, 1, "a-1&a"), -2);
        Bounds.due("below 0 is not 0", Bounds.reach(x, 3, "-a"), 1);
        Bounds.due("SAID", Bounds.reach(x, 3, "S=6"), 1);
        Bounds.rowIs(x, 1);
        x.step(1, 0);
        Bounds.due("what the latest STEP by hand SAID", Bounds.reach(x, 3, "S=6&W"), 0);
        Bounds.due("W is of the last STEP", Bounds.reach(x, 3, "W=0"), 1);
        Bounds.rowIs(x, 0);
        TwoKeys y = Bounds.with(0, "0", "a=a+1");
        Bounds.due("whether MUST BREAKS or not", Bounds.reach(y, 3, "a=3"), 3);
        TwoKeys z = Bounds.with(2, "", "?0", "a=h");
        Bounds.due("of several as short the first by numbers", Bounds.reach(z, 3, "a"), 1);
        Bounds.rowIs(z, 4);
        Bounds.due("two", Bounds.reach(z, 3, "a=2&h=1"), 2);
        Bounds.rowIs(z, 5, 1);
        Bounds.says(17, "-2: none;");
        String before = Bounds.look(z);
        Bounds.due("none", Bounds.reach(z, 20, "a=3"), -2);
        Bounds.due("none", Bounds.reach(z, 20, "0"), -2);
        Bounds.unchanged(z, before);
        Bounds.says(17, "-3; NONE: as all();");
        tooManyStates("", 16, (o, n) -> Bounds.reach(o, n, "a=7&b=8&c=1"));
        Bounds.due("-3, though it is so now", Bounds.reach(Bounds.with4001(""), 16, "1"), -3);
        Bounds.due("-3, though it never is", Bounds.reach(Bounds.with4001(""), 16, "0"), -3);
        noneAsAll((o, n) -> Bounds.reach(o, n, "a=0"));
    }

    private static void reachesOfTexts() {
        Bounds.says(17, "-100 - p: the sign at p can't stand there (behind NONE).");
        TwoKeys x = Bounds.with(0, "", "a=a+1");
        Bounds.value(x, "77");
        String before = Bounds.look(x);
        Bounds.due("an empty one", x.reach(3), -100);
        Bounds.due("at 1", Bounds.reach(x, 3, "a;"), -101);
        Bounds.due("its end", Bounds.reach(x, 3, "a="), -102);
        Bounds.due("61 signs", Bounds.reach(x, 3, Bounds.times("!", 60) + "a"), -160);
        Bounds.due("60 signs that end too early", Bounds.reach(x, 3, Bounds.times("!", 60)), -160);
        Bounds.due("at 59", Bounds.reach(x, 3, Bounds.times("!", 59) + ")a"), -159);
        Bounds.due("n 0", Bounds.reach(x, 0, "q"), -100);
        Bounds.due("n 20", Bounds.reach(x, 20, "q"), -100);
        Bounds.due("NONE first", Bounds.reach(x, 21, "q"), TwoKeys.NONE);
        Bounds.due("NONE first", Bounds.reach(x, -1, ""), TwoKeys.NONE);
        Bounds.due("signs", x.count(9), 0);
        Bounds.unchanged(x, before);
        Bounds.due("no TASKS first", Bounds.reach(new TwoKeys(), 3, "q"), TwoKeys.NONE);
        Bounds.due("60 signs", Bounds.reach(x, 3, Bounds.times("!", 58) + "-a"), 1);
    }

    // ---- promise 18

    private static void stucks() {
        Bounds.says(18, "The fewest STEPS, fewer than n, to a STATE from which each STEP leads to this STATE again; the ROW: they.");
        TwoKeys x = Bounds.with(0, "", Bounds.capped('a', 19));
        Bounds.due("19 of 20", x.stuck(20), 19);
        Bounds.rowIs(x, new long[19]);
        Bounds.due("19 of 19", x.stuck(19), -2);
        Bounds.task(x, 0, Bounds.capped('a', 20));
        Bounds.due("20 of 20", x.stuck(20), -2);
        Bounds.rowIs(x, new long[19]);
        x.slot(0, 20);
        Bounds.due("0 of 0", x.stuck(0), -2);
        Bounds.due("0 of 1", x.stuck(1), 0);
        Bounds.rowIs(x);
        TwoKeys y = Bounds.with(0, "", "a=1", "?b");
        Bounds.due("each STEP", y.stuck(9), 1);
        Bounds.rowIs(y, 0);
        Bounds.task(y, 1, "b=b+1");
        Bounds.due("one STEP leads on", y.stuck(9), -2);
        Bounds.task(y, 1, "s1;s2");
        Bounds.due("a LINE leads on", y.stuck(9), -2);
        TwoKeys k = Bounds.with(2, "", "?0");
        Bounds.due("two KEYS lead on", k.stuck(20), -2);
        k.keys(1);
        Bounds.due("one KEY", k.stuck(20), 1);
        Bounds.rowIs(k, 1);
        TwoKeys m = Bounds.with(0, "", "m0:1;?0");
        Bounds.due("a PART that is MOVING leads on", m.stuck(20), 4);
        TwoKeys f = Bounds.with(0, "", "a=1;j1:1", "b=1;j1:1;x");
        Bounds.due("of several as short the first by numbers", f.stuck(20), 2);
        Bounds.rowIs(f, 0, 1);
        Bounds.says(18, "-2: none;");
        TwoKeys w = Bounds.with(0, "", "a=a+1");
        Bounds.value(w, "77");
        String before = Bounds.look(w);
        Bounds.due("none", w.stuck(20), -2);
        Bounds.unchanged(w, before);
        Bounds.says(18, "-3; NONE: as all().");
        tooManyStates("", -2, TwoKeys::stuck);
        noneAsAll(TwoKeys::stuck);
        TwoKeys far = Bounds.with4001("");
        far.slot(0, 8);
        far.slot(1, 8);
        far.slot(2, 13);
        far.slot(3, 14);
        Bounds.due("it is so now", far.stuck(20), 0);
    }

    // ---- promise 19

    private static void runs() {
        Bounds.says(19, "Of all RUNS of n STEPS (their number at most 1000000000000) how many BREAK MUST in some STEP: the ROW: these, all; 0.");
        TwoKeys x = Bounds.with(4, "h<4", "?0", "?0");
        Bounds.due("0 STEPS", x.runs(0), 0);
        Bounds.rowIs(x, 0, 1);
        Bounds.due("10 to the 12th", x.runs(12), 0);
        Bounds.rowIs(x, 1000000000000L - 68719476736L, 1000000000000L);
        Bounds.due("10 to the 13th", x.runs(13), TwoKeys.NONE);
        Bounds.rowIs(x, 1000000000000L - 68719476736L, 1000000000000L);
        Bounds.must(x, "0");
        Bounds.due("0 STEPS, though it is 0 now", x.runs(0), 0);
        Bounds.rowIs(x, 0, 1);
        Bounds.due("all", x.runs(12), 0);
        Bounds.rowIs(x, 1000000000000L, 1000000000000L);
        Bounds.must(x, "");
        Bounds.due("none", x.runs(12), 0);
        Bounds.rowIs(x, 0, 1000000000000L);
        TwoKeys one = Bounds.with(0, "a<20", "a=a+1");
        Bounds.due("1 to the 20th", one.runs(20), 0);
        Bounds.rowIs(one, 1, 1);
        Bounds.due("1 to the 19th", one.runs(19), 0);
        Bounds.rowIs(one, 0, 1);
        Bounds.says(19, "-3; NONE: as all(), too many.");
        int[][] limits = {{1, 1, 20, 20}, {1, 2, 20, 20}, {1, 3, 19, 4}, {1, 4, 17, 5}, {2, 2, 15, 6}, {2, 3, 13, 8}, {3, 2, 12, 9}, {3, 3, 11, 12},
            {3, 4, 10, 15}, {4, 3, 9, 16}, {4, 4, 9, 20}};
        for (int[] l : limits) {
            TwoKeys y = Bounds.with(l[1], "", "?0");
            for (int task = 1; task < l[0]; task++) {
                Bounds.task(y, task, "?0");
            }
            Bounds.due("at most a million millions", y.runs(l[2]), 0);
            Bounds.due("more", y.runs(l[2] + 1), TwoKeys.NONE);
        }
        tooManyStates("a<1", 0, TwoKeys::runs);
        TwoKeys e = Bounds.with4000("a<1");
        e.runs(16);
        Bounds.rowIs(e, 4294967296L - 43046721L, 4294967296L);
        Bounds.due("too many RUNS ahead of too many STATES", Bounds.with4001("").runs(20), TwoKeys.NONE);
        noneAsAll(TwoKeys::runs);
    }

    // ---- promises 20 to 22

    private static void weights() {
        Bounds.says(20, "WEIGHT of no KEY (0), of a KEY, of a HAND becomes v: what it was.");
        TwoKeys x = new TwoKeys();
        x.keys(0);
        for (int key = 0; key < 5; key++) {
            Bounds.due("hand 0", x.weight(0, key, 9 - key), 1);
        }
        for (int key = 0; key < 5; key++) {
            Bounds.due("hand 1", x.weight(1, key, key == 4 ? 9 : 0), 1);
        }
        Bounds.says(20, "HANDS 0, 1: WEIGHTS 0 .. 9 of no KEY and of KEYS 1 .. 4");
        for (int key = 0; key < 5; key++) {
            Bounds.due("hand 0", x.weight(0, key, 0), 9 - key);
            Bounds.due("hand 1", x.weight(1, key, 9), key == 4 ? 9 : 0);
        }
        Bounds.says(20, "Refused: others.");
        TwoKeys y = new TwoKeys();
        String before = Bounds.look(y);
        int[][] refused = {{-1, 0, 2}, {2, 0, 2}, {MIN, 0, 2}, {MAX, 0, 2}, {0, -1, 2}, {0, 5, 2}, {1, MIN, 2}, {1, MAX, 2}, {0, 0, -1}, {0, 0, 10},
            {1, 4, MIN}, {1, 4, MAX}};
        for (int[] r : refused) {
            Bounds.due("weight(" + r[0] + ", " + r[1] + ", " + r[2] + ")", y.weight(r[0], r[1], r[2]), TwoKeys.NONE);
        }
        Bounds.unchanged(y, before);
        for (int key = 0; key < 5; key++) {
            Bounds.due("it stays", y.weight(0, key, 1), 1);
            Bounds.due("it stays", y.weight(1, key, 1), 1);
        }
    }

    private static void odds() {
        Bounds.says(21, "By a HAND: the WEIGHTS of RUNS of n STEPS that BREAK MUST by those of all (these, with TASKS, at most 1000000000000)");
        TwoKeys x = Bounds.with(4, "h<4", "?0", "?0");
        Bounds.due("10 to the 12th", x.odds(0, 12), 0);
        Bounds.rowIs(x, (1000000000000L - 68719476736L) / 4096, 1000000000000L / 4096);
        Bounds.due("10 to the 13th", x.odds(1, 13), TwoKeys.NONE);
        x.keys(3);
        Bounds.due("8 to the 13th: KEYS above k have no WEIGHT in it", x.odds(1, 13), 0);
        Bounds.due("8 to the 14th", x.odds(1, 14), TwoKeys.NONE);
        TwoKeys one = Bounds.with(0, "a<12", "a=a+1");
        Bounds.due("1 to the 20th", one.odds(0, 20), 0);
        one.weight(0, 0, 9);
        Bounds.due("9 to the 12th", one.odds(0, 12), 0);
        Bounds.rowIs(one, 1, 1);
        Bounds.due("9 to the 13th", one.odds(0, 13), TwoKeys.NONE);
        Bounds.rowIs(one, 1, 1);
        Bounds.says(21, "the ROW: upper, lower number in lowest terms (0 by 1); 0.");
        Bounds.due("none BREAKS", one.odds(0, 11), 0);
        Bounds.rowIs(one, 0, 1);
        TwoKeys y = Bounds.with(2, "h<2", "?0");
        Bounds.due("one of three", y.odds(0, 1), 0);
        Bounds.rowIs(y, 1, 3);
        Bounds.due("0 STEPS", y.odds(0, 0), 0);
        Bounds.rowIs(y, 0, 1);
        y.weight(0, 2, 0);
        Bounds.due("a KEY of WEIGHT 0", y.odds(0, 9), 0);
        Bounds.rowIs(y, 0, 1);
        y.weight(0, 0, 0);
        y.weight(0, 1, 0);
        y.weight(0, 2, 9);
        Bounds.due("that KEY alone", y.odds(0, 9), 0);
        Bounds.rowIs(y, 1, 1);
        y.weight(0, 0, 6);
        Bounds.due("9 of 15", y.odds(0, 1), 0);
        Bounds.rowIs(y, 3, 5);
        Bounds.due("the other HAND", y.odds(1, 1), 0);
        Bounds.rowIs(y, 1, 3);
    }

    private static void oddsOfNoWeight() {
        Bounds.says(21, "-2: all its WEIGHTS (of no KEY, of KEYS 1 .. k) are 0 (also with n 0);");
        TwoKeys x = Bounds.with(1, "h<1", "?0");
        x.weight(0, 0, 0);
        Bounds.due("KEY 1 has one", x.odds(0, 3), 0);
        x.weight(0, 1, 0);
        String before = Bounds.look(x);
        Bounds.due("KEYS 2 .. 4 do not count", x.odds(0, 3), -2);
        Bounds.due("n 0", x.odds(0, 0), -2);
        Bounds.due("n 20", x.odds(0, 20), -2);
        Bounds.unchanged(x, before);
        Bounds.due("the other HAND", x.odds(1, 3), 0);
        x.weight(0, 0, 1);
        Bounds.due("no KEY has one", x.odds(0, 3), 0);
        x.weight(0, 0, 0);
        x.keys(2);
        Bounds.due("KEY 2 counts now", x.odds(0, 3), 0);
        Bounds.says(21, "-3; NONE: as all(), no such HAND, too great.");
        tooManyStates("a<1", 0, (o, n) -> o.odds(0, n));
        tooManyStates("a<1", -2, (o, n) -> {
            o.weight(1, 0, 0);
            return o.odds(1, n);
        });
        noneAsAll((o, n) -> o.odds(1, n));
        String now = Bounds.look(x);
        for (int hand : new int[] {-1, 2, MIN, MAX}) {
            Bounds.due("hand " + hand, x.odds(hand, 3), TwoKeys.NONE);
        }
        Bounds.unchanged(x, now);
        Bounds.due("too great ahead of too many STATES", Bounds.with4001("").odds(0, 20), TwoKeys.NONE);
    }

    private static void quicks() {
        Bounds.says(22, "The HAND by which MUST is likelier to BREAK within n STEPS: 0, 1; 2: as likely.");
        TwoKeys x = Bounds.with(1, "h<1", "?0");
        Bounds.due("as likely", x.quick(20), 2);
        x.weight(0, 1, 9);
        Bounds.due("0", x.quick(1), 0);
        Bounds.due("as likely in 0 STEPS", x.quick(0), 2);
        x.weight(1, 1, 9);
        x.weight(0, 1, 8);
        Bounds.due("1", x.quick(1), 1);
        // both odds are all but 1, and the products across are above what a long holds
        Bounds.due("1 by little: 1 of 9 to the 12th against 1 of 10 to the 12th", x.quick(12), 1);
        x.weight(0, 0, 2);
        x.weight(0, 1, 8);
        x.weight(1, 0, 1);
        x.weight(1, 1, 4);
        Bounds.due("8 of 10 and 4 of 5", x.quick(12), 2);
        TwoKeys near = Bounds.with(1, "h<1", "?0");
        near.weight(1, 0, 2);
        near.weight(1, 1, 3);
        Bounds.due("1 of 2 and 3 of 5", near.quick(1), 1);
        near.weight(0, 0, 1);
        near.weight(0, 1, 2);
        Bounds.due("2 of 3 and 3 of 5", near.quick(1), 0);
        near.weight(1, 0, 0);
        Bounds.due("2 of 3 and all", near.quick(1), 1);
        near.weight(0, 1, 0);
        near.weight(1, 0, 8);
        Bounds.due("none and 3 of 11", near.quick(1), 1);
        near.weight(1, 1, 0);
        Bounds.due("none and none", near.quick(9), 2);
        Bounds.says(22, "NONE (of either, first), -2 (of either), -3 as odds().");
        Bounds.due("10 to the 13th of HAND 0", x.quick(13), TwoKeys.NONE);
        x.weight(1, 0, 0);
        x.weight(1, 1, 0);
        Bounds.due("NONE of HAND 0 ahead of -2 of HAND 1", x.quick(13), TwoKeys.NONE);
        Bounds.due("-2 of HAND 1", x.quick(12), -2);
        Bounds.due("-2 of HAND 1, n 0", x.quick(0), -2);
        x.weight(1, 0, 2);
        x.weight(1, 1, 8);
        x.weight(0, 0, 0);
        x.weight(0, 1, 0);
        String before = Bounds.look(x);
        Bounds.due("NONE of HAND 1 ahead of -2 of HAND 0", x.quick(13), TwoKeys.NONE);
        Bounds.due("-2 of HAND 0", x.quick(12), -2);
        Bounds.unchanged(x, before);
        tooManyStates("a<1", 2, TwoKeys::quick);
        noneAsAll(TwoKeys::quick);
        Bounds.due("too great ahead of too many STATES", Bounds.with4001("").quick(20), TwoKeys.NONE);
    }

    // ---- promise 23

    private static void rounds() {
        Bounds.says(23, "At how many of a SLOT's numbers 0 .. 255 (in place of what it is) MUST BREAKS in some RUN of n STEPS");
        TwoKeys x = Bounds.with(0, "a", "a=a+1");
        x.slot(0, 9);
        Bounds.due("255 goes round", x.round(0, 1), 1);
        Bounds.rowIs(x, 255);
        Bounds.due("250 .. 255", x.round(0, 6), 6);
        Bounds.rowIs(x, 250, 251, 252, 253, 254, 255);
        Bounds.due("a is as it was", x.at(0), 9);
        Bounds.due("in 0 STEPS none", x.round(0, 0), 0);
        Bounds.rowIs(x);
        Bounds.task(x, 0, "a=a-1");
        Bounds.due("1 .. 6", x.round(0, 6), 6);
        Bounds.rowIs(x, 1, 2, 3, 4, 5, 6);
        Bounds.task(x, 0, "?0");
        Bounds.due("0 alone", x.round(0, 6), 1);
        Bounds.rowIs(x, 0);
        Bounds.must(x, "h");
        Bounds.due("SLOT h", x.round(7, 1), 1);
        Bounds.rowIs(x, 0);
        Bounds.must(x, "");
        Bounds.due("no MUST", x.round(7, 6), 0);
        Bounds.rowIs(x);
        Bounds.says(23, "the ROW: the first 20.");
        int[] limits = {19, 20, 21, 255};
        for (int limit : limits) {
            TwoKeys y = Bounds.with(0, "c>" + (limit - 1), "?0");
            Bounds.due("below " + limit, y.round(2, 1), limit);
            Bounds.due("numbers", y.count(8), Math.min(limit, 20));
            Bounds.due("the last", y.row(Math.min(limit, 20) - 1), Math.min(limit, 20) - 1);
        }
        TwoKeys all = Bounds.with(0, "0", "?0");
        Bounds.due("all", all.round(0, 1), 256);
        Bounds.due("numbers", all.count(8), 20);
    }

    private static void roundsOfStates() {
        Bounds.says(23, "(n 0 .. 6; STATES at most 300 each)");
        TwoKeys e = Bounds.with(3, "h<3", Bounds.capped('a', 4), Bounds.capped('b', 4), Bounds.capped('c', 5), "?0");
        Bounds.due("300 STATES", e.all(6), 300);
        Bounds.due("300 each", e.round(6, 6), 256);
        TwoKeys o = Bounds.with(3, "h<3", Bounds.capped('a', 1), Bounds.capped('b', 2), Bounds.capped('c', 2), Bounds.capped('d', 4));
        Bounds.due("301 STATES", o.all(6), 301);
        Bounds.due("301 each", o.round(6, 6), -3);
        Bounds.says(23, "-3; NONE: others.");
        for (int number : new int[] {0, 255}) {
            String line = "=" + number + ")";
            TwoKeys one = Bounds.with(1, "h<1", "b=b+(a" + line, "c=c+(a" + line, "d=d+(a" + line, "e=e+(a" + line);
            one.slot(0, 7);
            Bounds.value(one, "77");
            String before = Bounds.look(one);
            Bounds.due("too many at " + number + " alone", one.round(0, 6), -3);
            Bounds.unchanged(one, before);
            Bounds.due("not as a is", one.round(5, 6), 256);
        }
        TwoKeys x = Bounds.with(0, "0", "a=a+1");
        Bounds.value(x, "77");
        String before = Bounds.look(x);
        int[][] refused = {{-1, 1}, {8, 1}, {MIN, 1}, {MAX, 1}, {0, -1}, {0, 7}, {0, 20}, {7, MIN}, {7, MAX}};
        for (int[] r : refused) {
            Bounds.due("round(" + r[0] + ", " + r[1] + ")", x.round(r[0], r[1]), TwoKeys.NONE);
        }
        Bounds.unchanged(x, before);
        Bounds.due("no TASKS", new TwoKeys().round(0, 1), TwoKeys.NONE);
        Bounds.due("NONE ahead of -3", o.round(6, 7), TwoKeys.NONE);
    }

    // ---- promise 24

    private static void means() {
        Bounds.says(24, "Of all RUNS of n STEPS (as runs()): the ROW: how many SAY a number in some STEP, "
            + "how many of these BREAK MUST in some STEP (that or another one); 0.");
        TwoKeys x = Bounds.with(0, "!F&!(S=100)", "s0", "s99", "x");
        Bounds.due("0 STEPS", x.means(0, 0), 0);
        Bounds.rowIs(x, 0, 0);
        Bounds.due("number 0", x.means(0, 1), 0);
        Bounds.rowIs(x, 1, 0);
        Bounds.due("number 99, in that STEP", x.means(99, 1), 0);
        Bounds.rowIs(x, 1, 1);
        Bounds.due("in another STEP, ahead or behind", x.means(0, 2), 0);
        Bounds.rowIs(x, 5, 4);
        Bounds.due("none SAYS it", x.means(1, 5), 0);
        Bounds.rowIs(x, 0, 0);
        Bounds.due("none SAYS it", x.means(98, 5), 0);
        Bounds.rowIs(x, 0, 0);
        TwoKeys y = Bounds.with(4, "0", "s7", "s8");
        Bounds.due("10 to the 12th", y.means(7, 12), 0);
        Bounds.rowIs(y, 1000000000000L - 244140625L, 1000000000000L - 244140625L);
        Bounds.says(24, "-3; NONE: as runs(), a number not 0 .. 99.");
        String before = Bounds.look(y);
        Bounds.due("10 to the 13th", y.means(7, 13), TwoKeys.NONE);
        for (int number : new int[] {-1, 100, 101, MIN, MAX}) {
            Bounds.due("number " + number, y.means(number, 1), TwoKeys.NONE);
        }
        Bounds.unchanged(y, before);
        noneAsAll((o, n) -> o.means(0, n));
        tooManyStates("a<1", 0, (o, n) -> o.means(99, n));
        Bounds.due("too many RUNS ahead of too many STATES", Bounds.with4001("").means(7, 20), TwoKeys.NONE);
        Bounds.due("no such number ahead of too many STATES", Bounds.with4001("").means(100, 16), TwoKeys.NONE);
    }
}
