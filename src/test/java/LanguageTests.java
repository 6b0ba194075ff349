import java.lang.reflect.Constructor;
import java.lang.reflect.Field;
import java.lang.reflect.Method;
import java.lang.reflect.Modifier;
import java.nio.file.Files;
import java.nio.file.Path;
import java.util.ArrayList;
import java.util.Arrays;
import java.util.HashSet;
import java.util.List;
import java.util.Map;
import java.util.Set;
import java.util.TreeMap;
import java.util.TreeSet;
import java.util.regex.Matcher;
import java.util.regex.Pattern;

/** Checks the public face, and those rules of LANGUAGE.md that can be read off the class and its source. */
public final class LanguageTests {
    private static final String SOURCE = "src/main/java/TernaryCompiler.java";
    private static final Set<String> TYPES = Set.of("int", "long", "short", "byte", "char", "boolean");

    private static int passed = 0;
    private static int failed = 0;

    private static void due(String rule, boolean holds, Object what) {
        if (holds) {
            passed++;
        } else {
            failed++;
            System.out.println(rule + ": " + what);
        }
    }

    public static void main(String[] args) throws Exception {
        faceIsTheDocuments();
        constantsAreTheDocuments();
        fieldsAreAllowed();
        methodsAreAllowed();
        String code = withoutComments(Files.readString(Path.of(SOURCE)));
        wordsAreAllowed(code);
        arraysAreMadeInFields(code);
        Map<String, String> bodies = methodBodies(code);
        due("the scan finds every method", bodies.keySet().equals(declaredNames()), bodies.keySet());
        methodsAreShort(bodies);
        callsAreAllowed(bodies);
        divisorsAreFixed(code);
        loopsAreCounted(bodies);
        System.out.println("LanguageTests: " + passed + " passed, " + failed + " failed");
        if (failed != 0) {
            System.exit(1);
        }
    }

    private static void faceIsTheDocuments() {
        Class<?> c = TernaryCompiler.class;
        due("rule 1", Modifier.isPublic(c.getModifiers()) && Modifier.isFinal(c.getModifiers()), "public and final");
        due("rule 1", c.getDeclaredClasses().length == 0, "no nested class");
        due("rule 1", c.getSuperclass() == Object.class && c.getInterfaces().length == 0, "extends nothing");
        Constructor<?>[] constructors = c.getDeclaredConstructors();
        due("rule 1", constructors.length == 1 && constructors[0].getParameterCount() == 0
            && Modifier.isPublic(constructors[0].getModifiers()), "one public constructor");
        Set<String> want = new TreeSet<>(List.of(
            "public int add(int, int, int, int)", "public int retract()", "public boolean sound()",
            "public boolean put(int, int)", "public int run()", "public int variable(int)", "public int trit(int, int)",
            "public int printed()", "public int output(int)", "public void clear()"));
        Set<String> got = new TreeSet<>();
        Set<String> publicNames = new HashSet<>();
        for (Method method : c.getDeclaredMethods()) {
            if (!Modifier.isPrivate(method.getModifiers())) {
                got.add(signature(method));
                publicNames.add(method.getName());
            }
        }
        due("the face", got.equals(want), got);
        for (Method method : c.getDeclaredMethods()) {
            boolean isPrivate = Modifier.isPrivate(method.getModifiers());
            due("rule 1", !isPrivate || !publicNames.contains(method.getName()), method);
        }
    }

    private static String signature(Method method) {
        List<String> parameters = new ArrayList<>();
        for (Class<?> type : method.getParameterTypes()) {
            parameters.add(type.getName());
        }
        return Modifier.toString(method.getModifiers()) + " " + method.getReturnType().getName() + " " + method.getName()
            + "(" + String.join(", ", parameters) + ")";
    }

    private static void constantsAreTheDocuments() throws Exception {
        Map<String, Integer> want = new TreeMap<>();
        String[] kinds = {"SET", "ADD", "SUB", "MUL", "UP", "DOWN", "LOW", "CASE", "ZERO", "POS", "LOOP", "END", "PRINT"};
        for (int i = 0; i < kinds.length; i++) {
            want.put(kinds[i], i);
        }
        want.put("BAD", -10000);
        want.put("FULL", -10001);
        want.put("UNSOUND", -10002);
        Map<String, Integer> got = new TreeMap<>();
        for (Field field : TernaryCompiler.class.getDeclaredFields()) {
            if (!Modifier.isPrivate(field.getModifiers())) {
                due("the face", Modifier.toString(field.getModifiers()).equals("public static final") && field.getType() == int.class, field);
                got.put(field.getName(), field.getInt(null));
            }
        }
        due("the constants", got.equals(want), got);
    }

    private static boolean isAllowedType(Class<?> type) {
        Class<?> element = type.isArray() ? type.getComponentType() : type;
        return TYPES.contains(element.getName());
    }

    private static void fieldsAreAllowed() {
        int fields = 0;
        for (Field field : TernaryCompiler.class.getDeclaredFields()) {
            due("rule 2", isAllowedType(field.getType()), field);
            if (Modifier.isStatic(field.getModifiers())) {
                boolean number = field.getType() == int.class || field.getType() == long.class;
                due("rule 5", number && Modifier.isFinal(field.getModifiers()), field);
            } else {
                fields++;
                due("rule 4", !field.getType().isArray() || Modifier.isFinal(field.getModifiers()), field);
            }
        }
        due("rule 10", fields <= 40, fields + " fields");
    }

    private static void methodsAreAllowed() {
        for (Method method : TernaryCompiler.class.getDeclaredMethods()) {
            Class<?> answer = method.getReturnType();
            due("rules 2 and 4", answer == void.class || TYPES.contains(answer.getName()), method);
            due("rule 2", Arrays.stream(method.getParameterTypes()).allMatch(LanguageTests::isAllowedType), method);
            due("rule 10", method.getParameterCount() <= 7, method);
        }
    }

    private static Set<String> declaredNames() {
        Set<String> names = new TreeSet<>();
        for (Method method : TernaryCompiler.class.getDeclaredMethods()) {
            names.add(method.getName());
        }
        return names;
    }

    private static String withoutComments(String source) {
        return source.replaceAll("(?s)/\\*.*?\\*/", " ").replaceAll("//[^\n]*", "");
    }

    private static void wordsAreAllowed(String code) {
        Set<String> banned = Set.of("import", "package", "float", "double", "throw", "throws", "try", "catch", "finally",
            "synchronized", "assert", "instanceof", "null", "interface", "enum", "record", "var", "native", "volatile",
            "extends", "implements", "protected", "super", "getClass", "hashCode", "equals", "toString");
        Matcher words = Pattern.compile("[A-Za-z_$][A-Za-z_$0-9]*").matcher(code);
        int classes = 0;
        while (words.find()) {
            String word = words.group();
            due("rules 1 to 6", !banned.contains(word), word);
            // A name of mixed case with a capital first is a class's.
            boolean isClass = word.matches("[A-Z][A-Za-z0-9]*[a-z][A-Za-z0-9]*");
            due("rule 3", !isClass || word.equals("TernaryCompiler"), word);
            classes += word.equals("class") ? 1 : 0;
        }
        due("rule 1", classes == 1, classes + " classes");
        due("rule 6", !code.contains("->") && !code.contains("::"), "no lambda, no method reference");
        due("rule 2", !code.contains("\"") && !code.contains("\\u"), "no text");
        due("rule 3", !code.contains("@"), "no annotation");
        due("rule 5", !Pattern.compile("static\\s*\\{").matcher(code).find(), "no static initialiser");
    }

    private static void arraysAreMadeInFields(String code) {
        Pattern field = Pattern.compile("    private final (\\w+)\\[\\] \\w+ = new (\\w+)\\[([A-Z]+)\\];");
        for (String line : code.split("\n")) {
            if (line.matches(".*\\bnew\\b.*")) {
                Matcher made = field.matcher(line);
                due("rule 4", made.matches() && TYPES.contains(made.group(2)), line);
            }
        }
        due("rule 4", !Pattern.compile("\\]\\s*\\[").matcher(code).find(), "one dimension");
        due("rule 4", !Pattern.compile("=\\s*\\{").matcher(code).find(), "no array in braces");
    }

    private static Map<String, String> methodBodies(String code) {
        Map<String, String> bodies = new TreeMap<>();
        Matcher heads = Pattern.compile("(?m)^    (?:public|private)[a-z ]* (\\w+)\\([^)]*\\) \\{\n(.*?)^    \\}", Pattern.DOTALL | Pattern.MULTILINE).matcher(code);
        while (heads.find()) {
            if (!heads.group(1).equals("TernaryCompiler")) {
                due("no two methods of one name", bodies.put(heads.group(1), heads.group(2)) == null, heads.group(1));
            }
        }
        return bodies;
    }

    private static void methodsAreShort(Map<String, String> bodies) {
        for (Map.Entry<String, String> method : bodies.entrySet()) {
            int lines = method.getValue().split("\n").length + 2;
            due("rule 10", lines <= 60, method.getKey() + " has " + lines + " lines");
        }
    }

    private static void callsAreAllowed(Map<String, String> bodies) {
        Set<String> controls = Set.of("if", "for", "while", "switch", "return");
        Map<String, Set<String>> calls = new TreeMap<>();
        for (Map.Entry<String, String> method : bodies.entrySet()) {
            Set<String> called = new TreeSet<>();
            String body = method.getValue();
            Matcher names = Pattern.compile("(\\w+)\\s*\\(").matcher(body);
            while (names.find()) {
                String name = names.group(1);
                if (controls.contains(name) || !bodies.containsKey(name)) {
                    due("rule 3", controls.contains(name), "a call of " + name);
                    continue;
                }
                called.add(name);
                String inside = arguments(body, names.end());
                due("rule 10", !inside.matches("(?s).*\\w\\s*\\(.*"), "a call inside " + name + "(" + inside + ")");
            }
            calls.put(method.getKey(), called);
        }
        for (String name : calls.keySet()) {
            int depth = depth(calls, name, 0);
            due("rules 8 and 10", depth <= 6, name + " calls " + depth + " deep");
        }
    }

    private static void divisorsAreFixed(String code) {
        Matcher divisions = Pattern.compile("[/%]=?\\s*(\\w*)").matcher(code);
        while (divisions.find()) {
            String divisor = divisions.group(1);
            due("rule 7", divisor.matches("[1-9][0-9]*|[A-Z]+"), "a division by " + divisor);
        }
    }

    /** Stricter than rule 8: each loop counts up to a bound, and nothing but its head changes the counter. */
    private static void loopsAreCounted(Map<String, String> bodies) {
        Pattern counted = Pattern.compile("for \\(int (\\w+) = 0; \\1 < \\w+(?: && [^;|]+)?; \\1\\+\\+\\)");
        for (Map.Entry<String, String> method : bodies.entrySet()) {
            String body = method.getValue();
            Matcher loops = Pattern.compile("\\b(?:for|while|do)\\b[^\n]*").matcher(body);
            while (loops.find()) {
                Matcher head = counted.matcher(loops.group());
                boolean holds = head.lookingAt();
                due("rule 8", holds, method.getKey() + ": " + loops.group());
                if (holds) {
                    String counter = "\\b" + head.group(1) + "\\b";
                    String change = counter + "\\s*(?:[-+*/%&|^<>]*=(?!=)|\\+\\+|--)|(?:\\+\\+|--)\\s*" + counter;
                    long heads = Pattern.compile("for \\(int " + counter).matcher(body).results().count();
                    // "<=" and ">=" look like changes but are comparisons, so they are taken out first.
                    long changes = Pattern.compile(change).matcher(body.replaceAll("[<>]=", "<")).results().count();
                    due("rule 8", changes == 2 * heads, method.getKey() + " changes " + head.group(1) + " in its loop");
                }
            }
        }
    }

    private static String arguments(String body, int from) {
        int open = 1;
        int at = from;
        while (open > 0 && at < body.length()) {
            open += body.charAt(at) == '(' ? 1 : body.charAt(at) == ')' ? -1 : 0;
            at++;
        }
        return body.substring(from, at - 1);
    }

    private static int depth(Map<String, Set<String>> calls, String name, int above) {
        int deepest = above + 1;
        // A method that calls itself, straight or through others, goes down for ever.
        if (above < 20) {
            for (String next : calls.get(name)) {
                deepest = Math.max(deepest, depth(calls, next, above + 1));
            }
        }
        return deepest;
    }
}
