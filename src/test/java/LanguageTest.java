import java.io.IOException;
import java.lang.reflect.Field;
import java.lang.reflect.Member;
import java.lang.reflect.Method;
import java.lang.reflect.Modifier;
import java.nio.file.Files;
import java.nio.file.Path;
import java.util.ArrayList;
import java.util.HashMap;
import java.util.HashSet;
import java.util.List;
import java.util.Map;
import java.util.Set;
import java.util.TreeSet;
import java.util.regex.Matcher;
import java.util.regex.Pattern;

/** The face of the document, and the rules of LANGUAGE.md that can be read off the source. */
public final class LanguageTest {
    private static final Path SOURCE = Path.of("src/main/java/AnswersFirst.java");
    private static final String FACE = "type/2 wipe/1 undo/1 fault/1 matter/2 set/2 worth/2 read/1 rows/1 sure/1 "
        + "cannot/1 freed/1 broken/1 nearest/1 steps/2 returns/2 hangs/1 rings/0 had/3 asked/3 open/2 best/2 rest/2 "
        + "owed/1 lack/0 unasked/0 fines/1 seen/2 forget/0 refused/1 lot/2 sheet/3 lose/1 put/4 get/3 copy/5 write/1 "
        + "count/1 digest/0";
    private static final Pattern METHOD = Pattern.compile("(?m)^( {4}| {8})((?:public |private |static |final )*)"
        + "([A-Za-z]+(?:\\[\\])? )?([A-Za-z]+)\\(([^)]*)\\) \\{");
    private static final Set<String> LIBRARY = Set.of("Math.max", "Math.min", "Integer.bitCount", "Arrays.fill",
        "System.arraycopy");
    private static final Checks C = new Checks();

    public static void main(String[] args) throws IOException {
        face();
        members();
        String source = Files.readString(SOURCE);
        String code = withoutTextsAndComments(source);
        words(code);
        methods(code);
        C.end();
    }

    private static void face() {
        Set<String> want = new TreeSet<>(List.of(FACE.split(" ")));
        Set<String> got = new TreeSet<>();
        for (Method m : AnswersFirst.class.getDeclaredMethods()) {
            if (!Modifier.isPrivate(m.getModifiers())) {
                got.add(m.getName() + "/" + m.getParameterCount());
                C.isTrue(m + " is public and of the object", m.getModifiers() == Modifier.PUBLIC);
                Class<?> answer = m.getName().equals("digest") ? long.class : int.class;
                C.isTrue(m + " answers " + answer, m.getReturnType() == answer);
                for (Class<?> p : m.getParameterTypes()) {
                    C.isTrue(m + " takes ints", p == int.class);
                }
            } else {
                C.isTrue(m + " has a name of its own", !(" " + FACE).contains(" " + m.getName() + "/"));
            }
        }
        C.isTrue("the face is " + want + ", not " + got, want.equals(got));
        C.isTrue("the class is public and final", AnswersFirst.class.getModifiers() == (Modifier.PUBLIC | Modifier.FINAL));
        C.due("constructors", AnswersFirst.class.getDeclaredConstructors().length, 1);
    }

    private static void members() {
        Set<String> constants = new TreeSet<>();
        for (Field f : AnswersFirst.class.getDeclaredFields()) {
            if (!Modifier.isPrivate(f.getModifiers())) {
                constants.add(f.getName());
            }
        }
        C.isTrue("the constants", constants.equals(Set.of("NONE", "BAD", "NOT", "FULL")));
        List<Class<?>> classes = new ArrayList<>(List.of(AnswersFirst.class.getDeclaredClasses()));
        C.isTrue("some twelve classes", classes.size() < 12);
        for (Class<?> inside : classes) {
            C.isTrue(inside + " is static", Modifier.isStatic(inside.getModifiers()));
            C.isTrue(inside + " is not public", !Modifier.isPublic(inside.getModifiers()));
            for (Method m : inside.getDeclaredMethods()) {
                C.isTrue(m + " has a name of its own", !(" " + FACE).contains(" " + m.getName() + "/"));
            }
        }
        classes.add(AnswersFirst.class);
        for (Class<?> one : classes) {
            fieldsOf(one);
        }
    }

    private static void fieldsOf(Class<?> one) {
        int fields = 0;
        for (Field f : one.getDeclaredFields()) {
            if (!isStatic(f)) {
                fields++;
                continue;
            }
            C.isTrue(f + " is final", Modifier.isFinal(f.getModifiers()));
            C.isTrue(f + " is an int or ints", f.getType() == int.class || f.getType() == int[].class);
        }
        C.isTrue(one + " has some twenty fields", fields <= 20);
    }

    private static boolean isStatic(Member m) {
        return Modifier.isStatic(m.getModifiers());
    }

    private static String withoutTextsAndComments(String source) {
        return source.replaceAll("\"[^\"\\n]*\"", "\"\"").replaceAll("/\\*\\*[^\\n]*\\*/", "").replaceAll("//[^\\n]*", "");
    }

    private static void words(String code) {
        String[] banned = {"throw", "throws", "try", "catch", "synchronized", "assert", "package", "hashCode", "toString",
            "equals", "Random", "System\\.(?!arraycopy)", "Thread", "Object", "double", "float", "->", "::", "Exact\\b",
            "abstract", "protected", "native", "volatile", "transient", "interface", "yield", "var"};
        for (String word : banned) {
            String edged = Character.isLetter(word.charAt(0)) && !word.contains("\\") ? "\\b" + word + "\\b" : word;
            C.isTrue("no " + word, !Pattern.compile(edged).matcher(code).find());
        }
        Matcher imports = Pattern.compile("import ([^;]*);").matcher(code);
        while (imports.find()) {
            C.isTrue("import " + imports.group(1), imports.group(1).equals("java.util.Arrays"));
        }
        Matcher library = Pattern.compile("\\b(Math|Integer|Long|Arrays|System|String)\\.(\\w+)").matcher(code);
        while (library.find()) {
            C.isTrue("the library has " + library.group(), LIBRARY.contains(library.group()));
        }
        C.isTrue("texts are not joined by +", !Pattern.compile("\"\" *\\+|\\+ *\"\"").matcher(code).find());
        C.isTrue("signs 0 to 127", code.chars().allMatch(c -> c < 128));
    }

    private static void methods(String code) {
        Map<String, Set<String>> calls = new HashMap<>();
        Map<String, String> bodies = new HashMap<>();
        Matcher m = METHOD.matcher(code);
        while (m.find()) {
            if (m.group(3) == null && !m.group(4).equals("AnswersFirst") || "new ".equals(m.group(3))) {
                continue;
            }
            int end = code.indexOf("\n" + m.group(1) + "}", m.end() - 1);
            String body = code.substring(m.end(), end);
            String name = m.group(4);
            C.isTrue(name + " has seven parameters at most", m.group(5).split(",").length <= 7);
            C.isTrue(name + " is short", body.split("\n").length <= 60);
            bodies.merge(name, body, (one, other) -> one + other);
        }
        C.isTrue("the methods were found", bodies.size() > 80 && bodies.containsKey("digest"));
        for (Map.Entry<String, String> one : bodies.entrySet()) {
            Set<String> called = new HashSet<>();
            Matcher c = Pattern.compile("\\b([a-zA-Z]+)\\(").matcher(one.getValue());
            while (c.find()) {
                if (bodies.containsKey(c.group(1))) {
                    called.add(c.group(1));
                }
            }
            calls.put(one.getKey(), called);
        }
        for (String name : calls.keySet()) {
            int depth = depth(calls, name, 1);
            C.isTrue(name + " goes " + depth + " deep, eight at most", depth <= 8);
        }
    }

    /** By names alone, so that methods of one name in two classes count as one: never too little. */
    private static int depth(Map<String, Set<String>> calls, String name, int level) {
        int deepest = level;
        for (String called : calls.get(name)) {
            if (level > 20) {
                return level;
            }
            deepest = Math.max(deepest, depth(calls, called, level + 1));
        }
        return deepest;
    }
}
