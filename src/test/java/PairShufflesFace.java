import java.lang.reflect.Constructor;
import java.lang.reflect.Field;
import java.lang.reflect.Method;
import java.lang.reflect.Modifier;
import java.nio.file.Files;
import java.nio.file.Path;
import java.util.Arrays;
import java.util.List;
import java.util.Map;
import java.util.Set;
import java.util.TreeMap;
import java.util.TreeSet;
import java.util.regex.Matcher;
import java.util.regex.Pattern;

/** The face of the class is the document's, and its text keeps to the words and sizes that LANGUAGE.md leaves. */
public final class PairShufflesFace {
    private static final Map<String, Integer> CALLS = new TreeMap<>(Map.ofEntries(
            Map.entry("append", 1), Map.entry("clear", 0), Map.entry("code", 3), Map.entry("turn", 0),
            Map.entry("letterAt", 1), Map.entry("codeOf", 2), Map.entry("pairAt", 2), Map.entry("bias", 3),
            Map.entry("shuffles", 1), Map.entry("placeOf", 1), Map.entry("shuffleAt", 3), Map.entry("next", 1),
            Map.entry("back", 1), Map.entry("at", 2), Map.entry("measure", 3), Map.entry("surprise", 5),
            Map.entry("common", 2), Map.entry("keep", 0), Map.entry("recall", 1), Map.entry("kinship", 1),
            Map.entry("count", 1), Map.entry("undo", 0), Map.entry("type", 1), Map.entry("clearText", 0),
            Map.entry("fault", 1), Map.entry("play", 0)));
    private static int wrong = 0;

    private static void holds(boolean right, String what) {
        if (!right) {
            wrong++;
            System.out.println("not so: " + what);
        }
    }

    private static void testClass() {
        int modifiers = PairShuffles.class.getModifiers();
        holds(Modifier.isPublic(modifiers) && Modifier.isFinal(modifiers), "the class is public and final");
        Constructor<?>[] makers = PairShuffles.class.getDeclaredConstructors();
        holds(makers.length == 1 && makers[0].getParameterCount() == 0 && Modifier.isPublic(makers[0].getModifiers()),
                "there is one public constructor without arguments");
        for (Class<?> inside : PairShuffles.class.getDeclaredClasses()) {
            holds(Modifier.isPrivate(inside.getModifiers()) && Modifier.isStatic(inside.getModifiers()),
                    "the class inside is private and static: " + inside);
            long fields = Arrays.stream(inside.getDeclaredFields())
                    .filter(field -> !Modifier.isStatic(field.getModifiers())).count();
            holds(fields <= 20, "at most 20 fields: " + inside);
        }
    }

    private static void testMethods() {
        Set<String> seen = new TreeSet<>();
        for (Method method : PairShuffles.class.getDeclaredMethods()) {
            if (Modifier.isPrivate(method.getModifiers())) {
                holds(!CALLS.containsKey(method.getName()), "a private method has a public name: " + method);
                continue;
            }
            holds(CALLS.containsKey(method.getName()), "the document has " + method);
            holds(seen.add(method.getName()), "there once: " + method);
            holds(method.getReturnType() == int.class && Modifier.isPublic(method.getModifiers())
                    && !Modifier.isStatic(method.getModifiers()), "a public method that returns an int: " + method);
            Integer parameters = CALLS.get(method.getName());
            holds(parameters != null && parameters == method.getParameterCount()
                    && Arrays.stream(method.getParameterTypes()).allMatch(type -> type == int.class),
                    "the parameters of " + method);
        }
        holds(seen.equals(CALLS.keySet()), "every method of the document is there");
    }

    private static void testFields() throws Exception {
        Map<String, Integer> constants = Map.of("INVALID_ARGUMENT", -1000001, "NOT_POSSIBLE", -1000002,
                "LIMIT_REACHED", -1000003, "NOT_FOUND", -1000004);
        int seen = 0;
        for (Field field : PairShuffles.class.getDeclaredFields()) {
            int modifiers = field.getModifiers();
            holds(!Modifier.isStatic(modifiers) || Modifier.isFinal(modifiers), "static means final: " + field);
            if (Modifier.isPrivate(modifiers)) {
                continue;
            }
            seen++;
            Integer value = constants.get(field.getName());
            holds(value != null && field.getType() == int.class && Modifier.isPublic(modifiers)
                    && Modifier.isStatic(modifiers) && field.getInt(null) == value, "a constant of the document: " + field);
        }
        holds(seen == constants.size(), "every constant of the document is there");
    }

    private static void testWords() throws Exception {
        String text = Files.readString(Path.of("src/main/java/PairShuffles.java"));
        holds(text.chars().allMatch(sign -> sign == '\n' || (sign >= 32 && sign < 127)), "only plain signs");
        String bare = text.replaceAll("(?s)/\\*.*?\\*/", "").replaceAll("//[^\n]*", "");
        Matcher forbidden = Pattern.compile(
                "\\b(throw|throws|try|catch|synchronized|assert|package|protected|volatile|native|transient)\\b"
                + "|->|::|Exact\\(|\\bhashCode\\b|\\btoString\\b").matcher(bare);
        while (forbidden.find()) {
            holds(false, "LANGUAGE.md leaves the word: " + forbidden.group());
        }
        Matcher imports = Pattern.compile("import ([^;]*);").matcher(bare);
        while (imports.find()) {
            holds(imports.group(1).equals("java.util.Arrays"), "LANGUAGE.md leaves the import " + imports.group(1));
        }
    }

    private static void testSizes() throws Exception {
        Class<?>[] inside = PairShuffles.class.getDeclaredClasses();
        holds(inside.length < 12, "at most 12 classes in the file: " + inside.length);
        for (Class<?> one : inside) {
            testParameters(one);
            for (Field field : one.getDeclaredFields()) {
                int modifiers = field.getModifiers();
                holds(!Modifier.isStatic(modifiers) || Modifier.isFinal(modifiers), "static means final: " + field);
            }
        }
        testParameters(PairShuffles.class);
        List<String> lines = Files.readAllLines(Path.of("src/main/java/PairShuffles.java"));
        int methods = 0;
        for (int head = 0; head < lines.size(); head++) {
            Matcher block = Pattern.compile("( {4}| {8})[^ ].*\\) \\{").matcher(lines.get(head));
            if (block.matches()) {
                methods++;
                int end = lines.subList(head, lines.size()).indexOf(block.group(1) + "}");
                holds(end > 0 && end < 60, "short is what begins with: " + lines.get(head));
            }
        }
        holds(methods >= CALLS.size(), "methods are found by their first lines");
    }

    private static void testParameters(Class<?> one) {
        for (Method method : one.getDeclaredMethods()) {
            holds(method.getParameterCount() <= 7, "at most seven parameters: " + method);
            holds(!Modifier.isPrivate(method.getModifiers()) || !CALLS.containsKey(method.getName()),
                    "a private method has a public name: " + method);
        }
    }

    public static void main(String[] args) throws Exception {
        testClass();
        testSizes();
        testMethods();
        testFields();
        testWords();
        System.out.println(wrong == 0 ? "the face is as due" : wrong + " parts of the face are not as due");
        if (wrong != 0) {
            System.exit(1);
        }
    }
}
