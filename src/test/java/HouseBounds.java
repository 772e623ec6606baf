/** The boundary cases of promises 35 to 43: shapes, houses, what is kept, counts and the row. */
final class HouseBounds {
    private static final int MIN = Bounds.MIN;
    private static final int MAX = Bounds.MAX;

    private HouseBounds() {
    }

    static void test() {
        likes();
        givens();
        letters();
        knews();
        knewsByLetters();
        enoughs();
        enoughsRefused();
        keeps();
        agains();
        counts();
        rows();
    }

    // ---- promise 35

    private static void likes() {
        Bounds.says(35, "the same text, if each SLOT of the one is put for one of the other (each for one alone): 1; "
            + "the ROW: of SLOTS a .. h of the first which one of the second (NONE, if it has it not); 0.");
        TwoKeys x = Bounds.with(0, "", "a=b+c+d+e+f+g+h", "h=g+f+e+d+c+b+a", "s1", "s1");
        Bounds.due("all SLOTS", x.like(0, 1), 1);
        Bounds.rowIs(x, 7, 6, 5, 4, 3, 2, 1, 0);
        Bounds.due("no SLOTS", x.like(2, 3), 1);
        Bounds.rowIs(x, -1, -1, -1, -1, -1, -1, -1, -1);
        Bounds.due("itself", x.like(0, 0), 1);
        Bounds.rowIs(x, 0, 1, 2, 3, 4, 5, 6, 7);
        String[][] unlike = {{"a=b", "c=c"}, {"a=a", "b=c"}, {"a=a", "a=A"}, {"a=1", "a=2"}, {"a=1", "a=01"}, {"a=1", "a=(1)"}, {"a=1", "a=b"},
            {"a=b", "a=1"}, {"a=1", "a=1;x"}, {"a=1;x", "a=1"}, {"x", "s1"}, {"m0:a", "m1:a"}, {"a=b;b=c;c=a", "a=b;b=c;c=b"},
            {"a=b;c=b", "a=b;a=b"}, {"a=A", "a=B"}, {"?a", "?A"}, {"?A", "?a"}};
        for (String[] pair : unlike) {
            TwoKeys y = Bounds.with(0, "", pair[0], pair[1]);
            Bounds.value(y, "77");
            Bounds.due(pair[0] + " and " + pair[1], y.like(0, 1), 0);
            Bounds.due(pair[1] + " and " + pair[0], y.like(1, 0), 0);
            Bounds.rowIs(y, 77);
        }
        TwoKeys z = Bounds.with(0, "", "a=b;b=a", "b=a;a=b", "c=h;h=c");
        Bounds.due("each for the other", z.like(0, 1), 1);
        Bounds.rowIs(z, 1, 0, -1, -1, -1, -1, -1, -1);
        Bounds.due("the last SLOT", z.like(0, 2), 1);
        Bounds.rowIs(z, 2, 7, -1, -1, -1, -1, -1, -1);
        Bounds.due("of the last SLOT", z.like(2, 0), 1);
        Bounds.rowIs(z, -1, -1, 0, -1, -1, -1, -1, 1);
        String whole = "a=12" + Bounds.times("+b", 28);
        TwoKeys w = Bounds.with(0, "", whole, "b=12" + Bounds.times("+a", 28), whole.substring(0, 59) + "a");
        Bounds.due("60 signs", w.like(0, 1), 1);
        Bounds.due("unlike in the last sign", w.like(0, 2), 0);
        Bounds.says(35, "NONE: none such.");
        String before = Bounds.look(x);
        for (int task : new int[] {4, 5, -1, MIN, MAX}) {
            Bounds.due("like(0, " + task + ")", x.like(0, task), TwoKeys.NONE);
            Bounds.due("like(" + task + ", 0)", x.like(task, 0), TwoKeys.NONE);
            Bounds.due("like of both", x.like(task, task), TwoKeys.NONE);
        }
        Bounds.unchanged(x, before);
        Bounds.due("no TASKS", new TwoKeys().like(0, 0), TwoKeys.NONE);
        Bounds.due("one TASK", Bounds.with(0, "", "x").like(0, 1), TwoKeys.NONE);
    }

    // ---- promises 36 to 38

    private static void givens() {
        Bounds.says(36, "A CASE: its number.");
        TwoKeys x = new TwoKeys();
        int[][] edges = {{0, 0, 0}, {5, 0, 0}, {0, 99, 0}, {0, 0, 255}, {5, 99, 255}};
        for (int i = 0; i < edges.length; i++) {
            Bounds.due("given", x.given(edges[i][0], edges[i][1], edges[i][2]), i);
        }
        Bounds.says(36, "HOUSES 0 .. 5. CASES (at most 12): of a HOUSE, a WEEK 0 .. 99 in which it comes to know it, MARKS (bits 0 .. 255).");
        Bounds.due("house 0 in week 0", x.knew(0, 0), 1 + 8);
        Bounds.due("house 5 in week 0", x.knew(5, 0), 2);
        Bounds.due("house 0 in week 98", x.knew(0, 98), 1 + 8);
        Bounds.due("house 0 in week 99", x.knew(0, 99), 1 + 4 + 8);
        Bounds.due("house 5 in week 98", x.knew(5, 98), 2);
        Bounds.due("house 5 in week 99", x.knew(5, 99), 2 + 16);
        Bounds.says(36, "Refused: others, 12.");
        String before = Bounds.look(x);
        int[][] refused = {{-1, 0, 0}, {6, 0, 0}, {MIN, 0, 0}, {MAX, 0, 0}, {0, -1, 0}, {0, 100, 0}, {0, MIN, 0}, {0, MAX, 0}, {0, 0, -1}, {0, 0, 256},
            {0, 0, MIN}, {0, 0, MAX}};
        for (int[] r : refused) {
            Bounds.due("given(" + r[0] + ", " + r[1] + ", " + r[2] + ")", x.given(r[0], r[1], r[2]), TwoKeys.NONE);
        }
        Bounds.unchanged(x, before);
        for (int i = 5; i < 12; i++) {
            Bounds.due("given", x.given(2, 7, 1), i);
        }
        before = Bounds.look(x);
        Bounds.due("a thirteenth", x.given(2, 7, 1), TwoKeys.NONE);
        Bounds.unchanged(x, before);
        Bounds.due("twelve are known", x.knew(2, 7), 4095 - 31);
    }

    private static void letters() {
        Bounds.says(37, "A LETTER: how many.");
        TwoKeys x = new TwoKeys();
        x.given(0, 99, 1);
        x.given(5, 0, 1);
        Bounds.due("the first", x.letter(0, 5, 99, 50), 1);
        Bounds.due("the second", x.letter(5, 0, 0, 0), 2);
        Bounds.says(37, "LETTERS (at most 12): from a HOUSE to another one, sent in a WEEK, of so many WEEKS (0 .. 50)");
        Bounds.due("99 and 50, a WEEK ahead", x.knew(5, 148), 2);
        Bounds.due("99 and 50", x.knew(5, 149), 3);
        Bounds.due("0 and 0", x.knew(0, 0), 2);
        Bounds.says(37, "Refused: others (unlike HOUSES), 12.");
        String before = Bounds.look(x);
        int[][] refused = {{-1, 0, 0, 0}, {6, 0, 0, 0}, {MIN, 0, 0, 0}, {MAX, 0, 0, 0}, {0, -1, 0, 0}, {0, 6, 0, 0}, {0, MIN, 0, 0}, {0, MAX, 0, 0},
            {0, 0, 0, 0}, {5, 5, 0, 0}, {6, 6, 0, 0}, {0, 1, -1, 0}, {0, 1, 100, 0}, {0, 1, MIN, 0}, {0, 1, MAX, 0}, {0, 1, 0, -1}, {0, 1, 0, 51},
            {0, 1, 0, MIN}, {0, 1, 0, MAX}};
        for (int[] r : refused) {
            Bounds.due("letter(" + r[0] + ", " + r[1] + ", " + r[2] + ", " + r[3] + ")", x.letter(r[0], r[1], r[2], r[3]), TwoKeys.NONE);
        }
        Bounds.unchanged(x, before);
        for (int i = 3; i <= 12; i++) {
            Bounds.due("letter", x.letter(2, 3, 1, 1), i);
        }
        before = Bounds.look(x);
        Bounds.due("a thirteenth", x.letter(5, 1, 1, 1), TwoKeys.NONE);
        Bounds.unchanged(x, before);
        Bounds.due("it was not sent", x.knew(1, 200), 0);
    }

    private static void knews() {
        Bounds.says(38, "CASES that a HOUSE knows in a WEEK (0 .. 200), as bits.");
        TwoKeys x = new TwoKeys();
        Bounds.due("none in WEEK 0", x.knew(0, 0), 0);
        Bounds.due("none in WEEK 200", x.knew(5, 200), 0);
        for (int i = 0; i < 12; i++) {
            x.given(i % 6, i, 255);
        }
        Bounds.due("first and seventh", x.knew(0, 200), 1 + 64);
        Bounds.due("the last", x.knew(5, 11), 32 + 2048);
        Bounds.due("a WEEK ahead", x.knew(5, 10), 32);
        Bounds.due("in its WEEK", x.knew(5, 5), 32);
        Bounds.due("a WEEK ahead", x.knew(5, 4), 0);
        Bounds.says(38, "NONE: others.");
        String before = Bounds.look(x);
        int[][] refused = {{-1, 0}, {6, 0}, {MIN, 0}, {MAX, 0}, {0, -1}, {0, 201}, {5, MIN}, {5, MAX}, {6, 201}};
        for (int[] r : refused) {
            Bounds.due("knew(" + r[0] + ", " + r[1] + ")", x.knew(r[0], r[1]), TwoKeys.NONE);
        }
        Bounds.unchanged(x, before);
    }

    private static void knewsByLetters() {
        Bounds.says(38, "who gets it knows then all CASES that the sender knew in the WEEK it was sent (by letters, too, also such as come in that WEEK).");
        TwoKeys x = new TwoKeys();
        x.given(0, 10, 1);
        x.given(0, 11, 2);
        x.letter(0, 1, 10, 5);
        Bounds.due("not yet", x.knew(1, 14), 0);
        Bounds.due("what was known in WEEK 10", x.knew(1, 15), 1);
        Bounds.due("no more later", x.knew(1, 200), 1);
        x.letter(0, 2, 9, 50);
        Bounds.due("sent a WEEK ahead", x.knew(2, 200), 0);
        x.letter(1, 3, 15, 0);
        Bounds.due("sent as one comes", x.knew(3, 15), 1);
        x.letter(1, 4, 14, 50);
        Bounds.due("sent a WEEK ahead of one that comes", x.knew(4, 200), 0);
        // told in any order: the letters of a chain, last one first, all in one WEEK
        TwoKeys chain = new TwoKeys();
        for (int i = 4; i >= 0; i--) {
            chain.letter(i, i + 1, 50, 0);
        }
        chain.letter(5, 0, 50, 0);
        chain.given(0, 50, 1);
        chain.given(5, 50, 2);
        for (int house = 0; house < 6; house++) {
            Bounds.due("a chain, last one first", chain.knew(house, 50), 3);
            Bounds.due("a WEEK ahead", chain.knew(house, 49), 0);
        }
        // twelve letters there and back, each sent as the one ahead comes
        TwoKeys long12 = new TwoKeys();
        for (int i = 11; i >= 0; i--) {
            long12.letter(i % 6, (i + 1) % 6, 8 * i, 8);
        }
        long12.given(0, 0, 1);
        long12.given(5, 0, 1);
        Bounds.due("after twelve", long12.knew(0, 96), 3);
        Bounds.due("the sixth back", long12.knew(0, 48), 3);
        Bounds.due("a WEEK ahead", long12.knew(0, 47), 1);
        Bounds.due("the eleventh", long12.knew(5, 88), 3);
        Bounds.due("the fifth", long12.knew(5, 40), 3);
        Bounds.due("a WEEK ahead", long12.knew(5, 39), 2);
        twelveInOneWeek();
    }

    /** As long a chain as there may be: what is told at its one end comes to know all ways through. */
    private static void twelveInOneWeek() {
        TwoKeys x = new TwoKeys();
        x.letter(4, 5, 99, 50);
        for (int i = 3; i >= 0; i--) {
            x.letter(i, i + 1, 99, 0);
        }
        x.given(0, 99, 255);
        Bounds.due("149", x.knew(5, 149), 1);
        Bounds.due("148", x.knew(5, 148), 0);
        Bounds.due("200", x.knew(5, 200), 1);
    }

    // ---- promise 39

    private static void enoughs() {
        Bounds.says(39, "The first WEEK (to 200) in which a HOUSE knows CASES whose MARKS have all that are told (bits 0 .. 255) together, "
            + "and c of them at least (0 .. 12) that have some of these; the ROW: the first such HOUSE.");
        TwoKeys x = new TwoKeys();
        Bounds.due("no MARKS, none", x.enough(0, 0), 0);
        Bounds.rowIs(x, 0);
        x.given(5, 99, 128);
        Bounds.due("one MARK", x.enough(128, 1), 99);
        Bounds.rowIs(x, 5);
        Bounds.due("one MARK, none have to have it", x.enough(128, 0), 99);
        Bounds.due("two of them", x.enough(128, 2), -2);
        Bounds.due("another MARK too", x.enough(129, 1), -2);
        Bounds.due("no MARKS: none has some of these", x.enough(0, 1), -2);
        x.given(5, 98, 0);
        Bounds.due("a CASE without MARKS does not count", x.enough(128, 2), -2);
        x.letter(5, 4, 99, 50);
        x.given(4, 0, 1);
        Bounds.due("together, in WEEK 149", x.enough(129, 2), 149);
        Bounds.rowIs(x, 4);
        Bounds.due("no third", x.enough(129, 3), -2);
        x.given(4, 99, 2);
        Bounds.due("one with none of these does not count", x.enough(129, 3), -2);
        Bounds.due("one with some of these does", x.enough(131, 3), 149);
        TwoKeys y = new TwoKeys();
        for (int i = 0; i < 12; i++) {
            y.given(3, 8 * i, 1 << i % 8);
        }
        Bounds.due("all MARKS, twelve", y.enough(255, 12), 88);
        Bounds.rowIs(y, 3);
        Bounds.due("all MARKS, eight", y.enough(255, 8), 56);
        Bounds.due("all MARKS, none", y.enough(255, 0), 56);
        Bounds.due("all MARKS, nine", y.enough(255, 9), 64);
        Bounds.due("WEEK 0", y.enough(1, 1), 0);
        TwoKeys z = new TwoKeys();
        z.given(4, 7, 1);
        z.given(2, 7, 1);
        z.given(1, 8, 1);
        Bounds.due("the first WEEK", z.enough(1, 1), 7);
        Bounds.rowIs(z, 2);
    }

    private static void enoughsRefused() {
        Bounds.says(39, "-2: never;");
        TwoKeys x = new TwoKeys();
        x.given(1, 7, 6);
        x.given(2, 7, 1);
        Bounds.value(x, "77");
        String before = Bounds.look(x);
        Bounds.due("of two HOUSES together", x.enough(7, 2), -2);
        Bounds.unchanged(x, before);
        Bounds.says(39, "NONE: others.");
        int[][] refused = {{-1, 0}, {256, 0}, {MIN, 0}, {MAX, 0}, {0, -1}, {0, 13}, {255, MIN}, {255, MAX}};
        for (int[] r : refused) {
            Bounds.due("enough(" + r[0] + ", " + r[1] + ")", x.enough(r[0], r[1]), TwoKeys.NONE);
        }
        Bounds.unchanged(x, before);
    }

    // ---- promises 40, 41

    private static void keeps() {
        Bounds.says(40, "The STATE and KEYS, SPEEDS, BOLTS ON are kept under a number 0 .. 2: true.");
        TwoKeys x = Bounds.with(2, "", "a=a+1");
        for (int i = 0; i < 3; i++) {
            Bounds.yes("keep(" + i + ")", x.keep(i));
            x.step(0, 0);
        }
        for (int i = 2; i >= 0; i--) {
            Bounds.yes("again(" + i + ")", x.again(i));
            Bounds.due("each its own", x.at(0), i);
        }
        Bounds.says(40, "Refused: others.");
        String before = Bounds.look(x);
        for (int i : new int[] {-1, 3, 4, MIN, MAX}) {
            Bounds.no("keep(" + i + ")", x.keep(i));
        }
        Bounds.unchanged(x, before);
        TwoKeys none = new TwoKeys();
        none.keep(3);
        for (int i = 0; i < 3; i++) {
            Bounds.no("nothing was kept", none.again(i));
        }
    }

    private static void agains() {
        Bounds.says(41, "They are as they were kept under a number.");
        TwoKeys x = Bounds.with(4, "", "m0:1;m3:a;a=255;h=9;?0");
        Bounds.bolt(x, "1");
        x.turn(0, false);
        x.speed(3, 15);
        x.slot(0, 3);
        x.steps(2, 2, 0, 0);
        x.keep(1);
        String[] kept = Bounds.look(x).split(", ");
        x.turn(0, true);
        x.speed(0, 0);
        x.speed(3, 0);
        x.keys(0);
        x.steps(2, 3, 0, 0);
        Bounds.yes("again", x.again(1));
        Bounds.due("the STATE", Bounds.look(x).split(", ")[1].equals(kept[1]) ? 1 : 0, 1);
        Bounds.due("KEYS", x.count(1), 4);
        Bounds.due("BOLTS ON", x.count(3), 0);
        Bounds.due("SPEED of A", x.speed(0, 7), 3);
        Bounds.due("SPEED of D", x.speed(3, 7), 15);
        Bounds.yes("once more", x.again(1));
        Bounds.due("SPEED of D", x.speed(3, 7), 15);
        Bounds.due("TENTHS of D", x.at(19), 15);
        x.keep(1);
        x.again(1);
        Bounds.due("kept anew", x.speed(3, 0), 7);
        x.turn(0, true);
        x.keys(0);
        x.keep(2);
        x.turn(0, false);
        x.keys(3);
        x.again(2);
        Bounds.due("BOLTS ON", x.count(3), 1);
        Bounds.due("KEYS", x.count(1), 0);
        Bounds.says(41, "Refused: nothing kept, a task() or bolt() since.");
        TwoKeys y = Bounds.with(2, "", "a=a+1");
        Bounds.no("nothing kept", y.again(0));
        y.keep(0);
        String before = Bounds.look(y);
        for (int i : new int[] {1, 2, 3, -1, MIN, MAX}) {
            Bounds.no("again(" + i + ")", y.again(i));
        }
        Bounds.unchanged(y, before);
        Bounds.task(y, 0, "q");
        Bounds.task(y, 2, "x");
        Bounds.bolt(y, "");
        Bounds.must(y, "!F");
        Bounds.patch(y, 0, 0, "x");
        Bounds.yes("a task() and a bolt() that changed nothing", y.again(0));
        y.step(0, 0);
        Bounds.task(y, 1, "x");
        Bounds.no("a new TASK since", y.again(0));
        Bounds.due("nothing changes", y.at(0), 1);
        y.keep(0);
        Bounds.task(y, 1, "x");
        Bounds.no("a TASK in place since", y.again(0));
        y.keep(0);
        y.keep(2);
        Bounds.bolt(y, "1");
        Bounds.no("a bolt() since", y.again(0));
        Bounds.no("a bolt() since", y.again(2));
        y.keep(0);
        Bounds.no("kept ahead of the bolt()", y.again(2));
        Bounds.yes("kept behind it", y.again(0));
    }

    // ---- promises 42, 43

    private static void counts() {
        Bounds.says(42, "What 0: TASKS, 1: KEYS, 2: BOLTS, 3: those ON (bits), 4: PATCHES, 5: KEYS of TYPING, 6: CASES, 7: LETTERS, 8: numbers of the ROW, "
            + "9: signs of THE TEXT, 10: STEPS by hand, 11: F, 12: P, 13: S, 14: W of the latest one.");
        TwoKeys x = Bounds.with(4, "", "x", "x", "x", "s99;x");
        for (int i = 0; i < 12; i++) {
            x.given(0, 0, 0);
            x.letter(0, 1, 0, 0);
            x.type(0);
            Bounds.bolt(x, "0");
            Bounds.patch(x, 3, 0, "x");
        }
        x.steps(2, 20, 5, 0);
        Bounds.due("P", x.count(12), 1);
        x.turn(0, false);
        x.turn(1, false);
        x.step(3, 0);
        Bounds.reach(x, 0, "S");
        Bounds.put(x, Bounds.times("x", 100));
        int[] full = {4, 4, 3, 4, 5, 8, 12, 12, 0, 100, 21, 0, 0, 100, 3};
        for (int what = 0; what < full.length; what++) {
            Bounds.due("count(" + what + ")", x.count(what), full[what]);
        }
        x.turn(2, false);
        x.step(3, 0);
        Bounds.due("F", x.count(11), 1);
        Bounds.due("S", x.count(13), 0);
        x.end(0);
        TwoKeys y = new TwoKeys();
        int[] empty = {0, 2, 0, 0, 0, 0, 0, 0, 0, 0, 0, 0, 0, 0, 0};
        for (int what = 0; what < empty.length; what++) {
            Bounds.due("count(" + what + ") of a new one", y.count(what), empty[what]);
        }
        Bounds.says(42, "NONE for another what.");
        for (int what : new int[] {-1, 15, 16, MIN, MAX}) {
            Bounds.due("count(" + what + ")", x.count(what), TwoKeys.NONE);
        }
    }

    private static void rows() {
        Bounds.says(43, "Number i of the ROW.");
        TwoKeys x = Bounds.with(0, "a<20", "a=a+1");
        Bounds.due("20 numbers", x.never(20), 20);
        Bounds.due("the first", x.row(0), 0);
        Bounds.due("the last", x.row(19), 0);
        x.keys(4);
        Bounds.task(x, 1, "?0");
        x.runs(12);
        Bounds.due("above an int", x.row(1), 1000000000000L);
        Bounds.due("below 0", Bounds.value(x, "-999"), -999);
        Bounds.says(43, "NoSuchElementException: none such.");
        for (int i : new int[] {1, 2, 19, 20, -1, MIN, MAX}) {
            Bounds.throwsRow(x, i);
        }
        x.keys(0);
        Bounds.must(x, "a<20");
        x.never(20);
        Bounds.throwsRow(x, 20);
        Bounds.throwsRow(x, -1);
        Bounds.reach(x, 3, "1");
        Bounds.throwsRow(x, 0);
        Bounds.throwsRow(new TwoKeys(), 0);
        Bounds.says(43, "ROW: numbers told last by a call that says so.");
        Bounds.value(x, "77");
        Bounds.task(x, 2, "x");
        Bounds.must(x, "");
        Bounds.bolt(x, "1");
        x.turn(0, true);
        x.slot(0, 1);
        x.speed(0, 1);
        x.keys(1);
        x.step(0, 0);
        x.steps(2, 1, 0, 0);
        x.all(3);
        x.weight(0, 0, 1);
        x.quick(3);
        Bounds.patch(x, 0, 0, "x");
        x.drop();
        x.type(1);
        x.wipe();
        x.given(0, 0, 1);
        x.letter(0, 1, 0, 0);
        x.knew(0, 0);
        x.keep(0);
        x.again(0);
        Bounds.rowIs(x, 77);
        Bounds.says(43, "Refused calls answer NONE, or false, and change nothing.");
        x.never(21);
        x.runs(-1);
        x.odds(2, 1);
        x.round(8, 1);
        x.means(100, 1);
        x.hid(1, 1);
        x.iron(21);
        x.mend(21);
        x.fits();
        x.many();
        x.spare();
        x.like(0, 9);
        x.enough(256, 0);
        Bounds.rowIs(x, 77);
    }
}
