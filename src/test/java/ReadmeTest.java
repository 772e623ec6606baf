import java.io.IOException;
import java.lang.reflect.InvocationTargetException;
import java.lang.reflect.Method;
import java.lang.reflect.Modifier;
import java.nio.file.Files;
import java.nio.file.Path;
import java.util.Set;
import java.util.TreeSet;
import java.util.regex.Matcher;
import java.util.regex.Pattern;

/** Does the calls that README.md shows, in their order, and compares with the answers that stand behind them. */
public final class ReadmeTest {
    private static final String NEW_OBJECT = "TwoKeys x = new TwoKeys();";
    private static final Pattern TEXT = Pattern.compile("text\\(x, \"([^\"]*)\"\\);");
    private static final Pattern CALL =
        Pattern.compile("x\\.(\\w+)\\(([^)]*)\\); +// (true|false|throws \\w+|-?\\d+)(: .*)?");
    private static final Pattern BLOCK = Pattern.compile("(?s)```java\n(.*?)```");

    private static final Set<String> SHOWN = new TreeSet<>();
    private static TwoKeys x = new TwoKeys();
    private static int calls = 0;
    private static int wrong = 0;

    /** As README.md shows it: helperIsShown() looks whether the two are the same. */
    static void text(TwoKeys x, String t) {
        for (int i = 0; i < t.length(); i += 4) {
            int v = 0;
            for (int j = i; j < i + 4; j++) {
                v = v << 8 | (j < t.length() ? t.charAt(j) : 0);
            }
            x.sign(v);
        }
        x.end(t.length());
    }

    public static void main(String[] args) throws IOException {
        String readme = Files.readString(Path.of("README.md"));
        Matcher blocks = BLOCK.matcher(readme);
        while (blocks.find()) {
            String block = blocks.group(1);
            if (block.startsWith("static ")) {
                helperIsShown(block);
            } else {
                for (String line : block.split("\n")) {
                    doLine(line.trim());
                }
            }
        }
        allAreShown();
        testsAreNamed(readme);
        System.out.println("README: " + calls + " calls, wrong " + wrong);
        System.exit(wrong == 0 && calls > 0 ? 0 : 1);
    }

    private static void fail(String what) {
        wrong++;
        System.out.println("README.md: " + what);
    }

    private static void helperIsShown(String block) throws IOException {
        String here = Files.readString(Path.of("src/test/java/ReadmeTest.java"));
        if (!unspaced(here).contains(unspaced(block))) {
            fail("the helper is another one than here");
        }
    }

    private static String unspaced(String t) {
        return t.replaceAll("\\s+", " ").trim();
    }

    private static void doLine(String line) {
        Matcher text = TEXT.matcher(line);
        Matcher call = CALL.matcher(line);
        if (line.equals(NEW_OBJECT)) {
            x = new TwoKeys();
        } else if (text.matches()) {
            text(x, text.group(1));
        } else if (call.matches()) {
            calls++;
            SHOWN.add(call.group(1));
            String got = answer(call.group(1), call.group(2));
            if (!got.equals(call.group(3))) {
                fail(line + " answered " + got);
            }
        } else {
            fail("no call with an answer: " + line);
        }
    }

    private static String answer(String name, String arguments) {
        for (Method m : TwoKeys.class.getMethods()) {
            if (m.getName().equals(name) && m.getDeclaringClass() == TwoKeys.class) {
                return answer(m, arguments.isEmpty() ? new String[0] : arguments.split(", "));
            }
        }
        return "no such call";
    }

    private static String answer(Method m, String[] told) {
        Class<?>[] types = m.getParameterTypes();
        if (types.length != told.length) {
            return "other arguments";
        }
        Object[] values = new Object[told.length];
        for (int i = 0; i < told.length; i++) {
            values[i] = types[i] == boolean.class ? (Object) told[i].equals("true") : (Object) Integer.decode(told[i]);
        }
        try {
            return String.valueOf(m.invoke(x, values));
        } catch (InvocationTargetException e) {
            return "throws " + e.getCause().getClass().getSimpleName();
        } catch (IllegalAccessException e) {
            return "not public";
        }
    }

    private static void allAreShown() {
        for (Method m : TwoKeys.class.getDeclaredMethods()) {
            if (Modifier.isPublic(m.getModifiers()) && !SHOWN.contains(m.getName())) {
                fail(m.getName() + " is not shown");
            }
        }
    }

    private static void testsAreNamed(String readme) throws IOException {
        try (var files = Files.list(Path.of("src/test/java"))) {
            files.map(f -> f.getFileName().toString().replace(".java", "")).sorted().forEach(name -> {
                if (!readme.contains("`" + name + "`")) {
                    fail(name + " is not named");
                }
            });
        }
    }
}
