import java.lang.reflect.Field;
import java.lang.reflect.Method;
import java.lang.reflect.Modifier;
import java.nio.file.Files;
import java.nio.file.Path;
import java.util.ArrayList;
import java.util.List;
import java.util.Map;
import java.util.Set;
import java.util.TreeMap;
import java.util.TreeSet;
import java.util.regex.Matcher;
import java.util.regex.Pattern;

/** Those of the rules of LANGUAGE.md that can be looked up in the source and the class. */
public final class LanguageTest {
    private static final String FACE = "sign end task must bolt turn slot speed keys step steps at ask all never reach stuck runs weight odds "
        + "quick round means hid iron patch mend drop type wipe fits many spare like given letter knew enough keep again count row";
    private static final String[] FORBIDDEN = {"\\bcatch\\b", "\\btry\\b", "\\bfinally\\b", "->", "::", "\\bsynchronized\\b", "\\bassert\\b",
        "\\binstanceof\\b", "\\bfloat\\b", "\\bdouble\\b", "Exact\\(", "\\bArrayList\\b", "\\bString\\b", "\\bprotected\\b", "\\bwhile \\(true\\)",
        "for \\(;;\\)", "System\\.(?!arraycopy)", "Math\\.(?!min|max)", "Integer\\.(?!bitCount)", "\\[\\]\\["};

    /** The first line of a method, in the class or in one inside it. */
    private static final Pattern HEAD =
        Pattern.compile(" {4,8}(?!if|for|while|switch|else|return|do|new)[\\w\\[\\] ]+ (\\w+)\\([^;]*\\{");

    private static int wrong = 0;

    private static void yes(String what, boolean holds) {
        if (!holds) {
            wrong++;
            System.out.println("rule broken: " + what);
        }
    }

    public static void main(String[] args) throws Exception {
        String source = Files.readString(Path.of("src/main/java/TwoKeys.java"));
        face();
        names();
        words(source.replaceAll("(?s)/\\*.*?\\*/", "").replaceAll("//[^\n]*", ""));
        lengths(source.split("\n"));
        depths(source.replaceAll("(?s)/\\*.*?\\*/", "").replaceAll("//[^\n]*", "").split("\n"));
        for (char c : source.toCharArray()) {
            if (c > 126) {
                yes("signs are 1 to 127", false);
            }
        }
        System.out.println("language: wrong " + wrong);
        System.exit(wrong == 0 ? 0 : 1);
    }

    private static void face() {
        Set<String> open = new TreeSet<>();
        for (Method m : TwoKeys.class.getDeclaredMethods()) {
            boolean isPublic = Modifier.isPublic(m.getModifiers());
            yes(m.getName() + " is public or private", isPublic || Modifier.isPrivate(m.getModifiers()) || m.isSynthetic());
            if (isPublic) {
                open.add(m.getName());
            } else {
                yes(m + " bears a public name", !Set.of(FACE.split(" ")).contains(m.getName()));
            }
        }
        yes("the public methods are those of the face", open.equals(new TreeSet<>(List.of(FACE.split(" ")))));
        for (Field f : TwoKeys.class.getDeclaredFields()) {
            yes(f.getName() + " is private", Modifier.isPrivate(f.getModifiers()) || f.getName().equals("NONE"));
        }
        yes("one constructor", TwoKeys.class.getConstructors().length == 1);
        yes("final", Modifier.isFinal(TwoKeys.class.getModifiers()));
        yes("at most twelve classes", TwoKeys.class.getDeclaredClasses().length < 12);
    }

    private static void names() {
        Set<String> face = Set.of(FACE.split(" "));
        List<Class<?>> all = new ArrayList<>(List.of(TwoKeys.class.getDeclaredClasses()));
        for (Class<?> c : all) {
            yes(c.getName() + " is static", Modifier.isStatic(c.getModifiers()));
            int fields = 0;
            for (Field f : c.getDeclaredFields()) {
                boolean isStatic = Modifier.isStatic(f.getModifiers());
                yes(f + " is final", !isStatic || Modifier.isFinal(f.getModifiers()));
                fields += isStatic ? 0 : 1;
            }
            yes(c.getName() + " has some twenty fields", fields <= 20);
            for (Method m : c.getDeclaredMethods()) {
                yes(m + " bears a public name", !face.contains(m.getName()));
                yes(m + " takes too many", m.getParameterCount() <= 7);
            }
        }
    }

    private static void words(String code) {
        for (String word : FORBIDDEN) {
            Matcher m = Pattern.compile(word).matcher(code);
            yes("the word " + word, !m.find());
        }
        Matcher imports = Pattern.compile("import ([\\w.]+);").matcher(code);
        while (imports.find()) {
            yes("import " + imports.group(1), imports.group(1).equals("java.util.NoSuchElementException"));
        }
    }

    /** A method ends at the first closing bracket that stands as far in as it began. */
    private static void lengths(String[] lines) {
        for (int i = 0; i < lines.length; i++) {
            yes("line " + (i + 1) + " is too long", lines[i].length() <= 120);
            if (HEAD.matcher(lines[i]).matches()) {
                String end = lines[i].replaceAll("\\S.*", "") + "}";
                int j = i;
                while (j < lines.length && !lines[j].equals(end)) {
                    j++;
                }
                yes("the method at line " + (i + 1) + " is too long", j - i < 60);
            }
        }
    }

    /** Calls go at most eight deep; methods of one name are taken as one, so this counts rather too many. */
    private static void depths(String[] lines) {
        Map<String, Set<String>> called = new TreeMap<>();
        String name = "";
        for (String line : lines) {
            Matcher head = HEAD.matcher(line);
            if (head.matches()) {
                name = head.group(1);
                called.putIfAbsent(name, new TreeSet<>());
            } else if (!name.isEmpty()) {
                Matcher calls = Pattern.compile("(?<!new )\\b(\\w+)\\(").matcher(line);
                while (calls.find()) {
                    called.get(name).add(calls.group(1));
                }
            }
        }
        yes("the methods of the source are found", called.keySet().containsAll(Set.of(FACE.split(" "))));
        for (String call : FACE.split(" ")) {
            yes(call + " goes too deep", depth(call, called, 1) <= 8);
        }
    }

    private static int depth(String name, Map<String, Set<String>> called, int from) {
        int deepest = from;
        for (String next : called.get(name)) {
            if (called.containsKey(next) && from <= 20) {
                deepest = Math.max(deepest, depth(next, called, from + 1));
            }
        }
        return deepest;
    }
}
