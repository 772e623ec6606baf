import java.io.IOException;
import java.nio.file.Files;
import java.nio.file.Path;
import java.util.Arrays;
import java.util.NoSuchElementException;
import java.util.regex.Matcher;
import java.util.regex.Pattern;

/**
 * What the tests of boundary cases share: the sentence of the document that is tested now, texts, looks at an
 * object; and at the end whether every boundary that the document names stands in a sentence that was tested.
 */
final class Bounds {
    static final int MIN = Integer.MIN_VALUE;
    static final int MAX = Integer.MAX_VALUE;
    static final int PROMISES = 43;

    /** Words and numbers by which a promise names a boundary case. */
    private static final Pattern MARKS = Pattern.compile("Refused|NONE|-1 - p|-100|(?<!\\d)-[23]\\b|NoSuchElementException|true|false"
        + "|empty|at most|at least|\\d+ \\.\\. \\d+|above|below|fewer|fewest|first|missing|too |no such|none such|never|nothing|only|\\b12\\b|\\b20\\b|1000000000000");
    private static final Pattern FRONT_MARKS = Pattern.compile("at most|at first|(?<=\\()none at first|\\d+ \\.\\. (\\d+|k)|more than|lowest|none such"
        + "|No blanks|Refused|change nothing|1 or 2 digits|1 to 3 digits|0 for none|-3|any many|not one behind|Ahead of the first|last LINE"
        + "|last one|at once|else it stays|of now|as short|also such|512");

    /** Section 0 is all that stands ahead of the first promise. */
    private static final String[] SECTIONS = new String[PROMISES + 1];
    private static final boolean[][] TESTED = new boolean[PROMISES + 1][];

    private static int promise = 0;
    private static String sentence = "";
    private static int sentences = 0;
    private static int checks = 0;
    private static int checksBefore = -1;
    private static int wrong = 0;

    private Bounds() {
    }

    // ---- the document

    static void readDocument() throws IOException {
        String document = Files.readString(Path.of("../shared/DOC.md"));
        String[] parts = document.split("(?m)^## Promise \\d+: ");
        if (parts.length != PROMISES + 1) {
            throw new IOException("the document has other promises");
        }
        parts[0] = parts[0].replaceAll("(?s)```java.*?```", "");
        parts[PROMISES] = parts[PROMISES].replaceAll("(?s)## Not promised.*", "");
        for (int i = 0; i <= PROMISES; i++) {
            SECTIONS[i] = parts[i].replaceAll("\\s+", " ").trim();
            TESTED[i] = new boolean[SECTIONS[i].length()];
        }
    }

    /** The checks from here on are of this sentence of a promise, or of one on which the promise rests. */
    static void says(int ofPromise, String words) {
        endSentence();
        promise = ofPromise;
        sentence = words;
        sentences++;
        checksBefore = checks;
        int section = SECTIONS[ofPromise].contains(words) ? ofPromise : 0;
        int at = SECTIONS[section].indexOf(words);
        if (at < 0) {
            fail("the document does not say so");
            return;
        }
        Arrays.fill(TESTED[section], at, at + words.length(), true);
    }

    private static void endSentence() {
        if (checks == checksBefore) {
            fail("no check of it");
        }
    }

    /** Every mark of a boundary has to stand in a sentence that was tested. */
    static int finish() {
        endSentence();
        for (int i = 0; i <= PROMISES; i++) {
            promise = i;
            Matcher m = (i == 0 ? FRONT_MARKS : MARKS).matcher(SECTIONS[i]);
            // the call's own line names no boundary
            int from = i == 0 ? 0 : SECTIONS[i].indexOf("`: ");
            while (m.find()) {
                if (m.start() > from && !TESTED[i][m.start()]) {
                    sentence = SECTIONS[i].substring(m.start(), Math.min(SECTIONS[i].length(), m.start() + 60));
                    fail("no test names it");
                }
            }
        }
        System.out.println("boundaries: " + sentences + " sentences, " + checks + " checks, wrong " + wrong);
        return wrong;
    }

    private static void fail(String what) {
        wrong++;
        System.out.println("promise " + promise + ", \"" + sentence + "\": " + what);
    }

    // ---- checks

    static void due(String what, long got, long want) {
        checks++;
        if (got != want) {
            fail(what + " answered " + got + ", due is " + want);
        }
    }

    static void yes(String what, boolean got) {
        due(what, got ? 1 : 0, 1);
    }

    static void no(String what, boolean got) {
        due(what, got ? 1 : 0, 0);
    }

    static void rowIs(TwoKeys x, long... want) {
        String got = Arrays.toString(row(x));
        checks++;
        if (!got.equals(Arrays.toString(want))) {
            fail("the row is " + got + ", due is " + Arrays.toString(want));
        }
    }

    /** All that can be looked at without changing it is as it was. */
    static void unchanged(TwoKeys x, String before) {
        checks++;
        String now = look(x);
        if (!now.equals(before)) {
            fail("it was " + before + ", now it is " + now);
        }
    }

    static void throwsRow(TwoKeys x, int i) {
        boolean thrown = false;
        try {
            x.row(i);
        } catch (NoSuchElementException e) {
            thrown = true;
        }
        yes("row(" + i + ") throws", thrown);
    }

    static void throwsAt(TwoKeys x, int what) {
        boolean thrown = false;
        try {
            x.at(what);
        } catch (NoSuchElementException e) {
            thrown = true;
        }
        yes("at(" + what + ") throws", thrown);
    }

    // ---- looks

    static long[] row(TwoKeys x) {
        long[] row = new long[Math.max(0, x.count(8))];
        for (int i = 0; i < row.length; i++) {
            row[i] = x.row(i);
        }
        return row;
    }

    static String look(TwoKeys x) {
        StringBuilder b = new StringBuilder("counts");
        for (int i = 0; i < 15; i++) {
            b.append(' ').append(x.count(i));
        }
        b.append(", at");
        for (int i = 0; i < 24; i++) {
            b.append(' ').append(x.at(i));
        }
        return b.append(", row ").append(Arrays.toString(row(x))).toString();
    }

    // ---- texts

    /** Puts THE TEXT, whatever it was. */
    static TwoKeys put(TwoKeys x, String t) {
        x.end(0);
        for (int i = 0; i < t.length(); i += 4) {
            int v = 0;
            for (int j = 0; j < 4; j++) {
                v = v << 8 | (i + j < t.length() ? t.charAt(i + j) & 255 : 0);
            }
            x.sign(v);
        }
        x.end(t.length());
        return x;
    }

    static int task(TwoKeys x, int task, String program) {
        return put(x, program).task(task);
    }

    static int must(TwoKeys x, String t) {
        return put(x, t).must();
    }

    static int bolt(TwoKeys x, String t) {
        return put(x, t).bolt();
    }

    static int patch(TwoKeys x, int task, int line, String t) {
        return put(x, t).patch(task, line);
    }

    static int reach(TwoKeys x, int n, String t) {
        return put(x, t).reach(n);
    }

    static long value(TwoKeys x, String t) {
        due("ask of " + t, put(x, t).ask(), 0);
        due("numbers of the row", x.count(8), 1);
        return x.count(8) == 1 ? x.row(0) : MIN;
    }

    static String times(String t, int n) {
        return t.repeat(n);
    }

    // ---- machines

    static TwoKeys with(int keys, String must, String... programs) {
        TwoKeys x = new TwoKeys();
        x.keys(keys);
        for (int i = 0; i < programs.length; i++) {
            task(x, i, programs[i]);
        }
        must(x, must);
        return x;
    }

    /** A line that counts up to a number and stays there. */
    static String capped(char slot, int most) {
        return slot + "=" + slot + "+(" + slot + "<" + most + ")";
    }

    /** No KEYS; RUNS of at most 16 STEPS come to 4000 STATES. */
    static TwoKeys with4000(String must) {
        return with(0, must, capped('a', 7), capped('b', 8), capped('c', 13), capped('d', 14));
    }

    /** The same and one STATE more, 16 STEPS away. */
    static TwoKeys with4001(String must) {
        return with(0, must, capped('a', 7) + "+(a=7&b=8&c+d=0)", capped('b', 8), capped('c', 13), capped('d', 14));
    }

    /** How many rows of four counters as with4000() has are 16 STEPS at most away. */
    static int counted4000() {
        int number = 0;
        for (int a = 0; a <= 7; a++) {
            for (int b = 0; b <= 8; b++) {
                for (int c = 0; c <= 13; c++) {
                    for (int d = 0; d <= 14; d++) {
                        number += a + b + c + d <= 16 ? 1 : 0;
                    }
                }
            }
        }
        return number;
    }
}
