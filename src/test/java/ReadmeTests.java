import java.io.IOException;
import java.lang.reflect.Field;
import java.lang.reflect.Method;
import java.lang.reflect.Modifier;
import java.net.URL;
import java.net.URLClassLoader;
import java.nio.file.Files;
import java.nio.file.Path;
import java.util.ArrayList;
import java.util.Comparator;
import java.util.List;
import java.util.regex.Matcher;
import java.util.regex.Pattern;
import java.util.stream.Stream;
import javax.tools.JavaCompiler;
import javax.tools.ToolProvider;

/** Checks that README.md tells of the whole public face, and that its examples answer what they say they do. */
public final class ReadmeTests {
    private static final Path README = Path.of("README.md");
    private static final Pattern EXAMPLE = Pattern.compile("(?ms)^```java\n(.*?)^```$");
    private static final Pattern ANSWER = Pattern.compile("(?m)^(?:int|boolean) (\\w+) = .*; +// (-?\\d+|true|false)\\b");

    private static int passed = 0;
    private static int failed = 0;

    private static void due(String what, Object got, Object want) {
        if (got.equals(want)) {
            passed++;
        } else {
            failed++;
            System.out.println(what + ": " + got + ", due is " + want);
        }
    }

    public static void main(String[] args) throws Exception {
        String text = Files.readString(README);
        callsAreNamed(text);
        constantsAreNamed(text);
        testsAreNamed(text);
        Path made = Files.createTempDirectory("readme");
        try {
            examplesHold(text, made);
        } finally {
            remove(made);
        }
        System.out.println("ReadmeTests: " + passed + " passed, " + failed + " failed");
        if (failed != 0) {
            System.exit(1);
        }
    }

    private static void callsAreNamed(String text) {
        for (Method method : TernaryCompiler.class.getDeclaredMethods()) {
            if (Modifier.isPublic(method.getModifiers())) {
                List<String> numbers = new ArrayList<>();
                for (int i = 0; i < method.getParameterCount(); i++) {
                    numbers.add("\\w+");
                }
                String row = "(?m)^\\| `" + method.getName() + "\\(" + String.join(", ", numbers) + "\\)` \\|";
                due("a row of " + method.getName(), Pattern.compile(row).matcher(text).find(), true);
            }
        }
    }

    private static void constantsAreNamed(String text) throws IllegalAccessException {
        for (Field field : TernaryCompiler.class.getDeclaredFields()) {
            if (Modifier.isPublic(field.getModifiers())) {
                int value = field.getInt(null);
                String name = "`" + field.getName() + "`";
                String told = value < 0 ? Pattern.quote(name + " (" + value + ")") : "(?m)^\\|[^|]*" + name + "[^|]*\\|";
                due("the place of " + name, Pattern.compile(told).matcher(text).find(), true);
            }
        }
    }

    private static void testsAreNamed(String text) throws IOException {
        for (String folder : List.of("src/test/java", "src/test/support")) {
            try (Stream<Path> files = Files.list(Path.of(folder))) {
                for (Path file : files.toList()) {
                    String name = file.getFileName().toString().replace(".java", "");
                    due("told of " + file, text.contains("`" + name + "`"), true);
                }
            }
        }
        due("the command of the tests", text.contains("\n.ci/run\n"), true);
    }

    private static void examplesHold(String text, Path made) throws Exception {
        Matcher examples = EXAMPLE.matcher(text);
        int number = 0;
        while (examples.find()) {
            number++;
            exampleHolds("Example" + number, examples.group(1), made);
        }
        due("there are examples", number > 0, true);
    }

    /** Compiles the example as the README says, and lets it answer each variable that has a value beside it. */
    private static void exampleHolds(String name, String lines, Path made) throws Exception {
        StringBuilder names = new StringBuilder();
        List<String> wants = new ArrayList<>();
        Matcher answers = ANSWER.matcher(lines);
        while (answers.find()) {
            names.append(names.length() == 0 ? "" : ", ").append(answers.group(1));
            wants.add(answers.group(1) + " = " + answers.group(2));
        }
        due(name + " tells answers", wants.isEmpty(), false);
        Path source = made.resolve(name + ".java");
        Files.writeString(source, "public class " + name + " { public static Object[] answers() {\n" + lines
            + "return new Object[] {" + names + "}; } }\n");
        JavaCompiler compiler = ToolProvider.getSystemJavaCompiler();
        Path out = Files.createDirectory(made.resolve(name));
        int ended = compiler.run(null, null, null, "-d", out.toString(),
            "src/main/java/TernaryCompiler.java", source.toString());
        due(name + " compiles", ended, 0);
        if (ended != 0) {
            return;
        }
        try (URLClassLoader loader = new URLClassLoader(new URL[] {out.toUri().toURL()})) {
            Object[] got = (Object[]) loader.loadClass(name).getMethod("answers").invoke(null);
            for (int i = 0; i < got.length; i++) {
                due(name, wants.get(i).replaceAll(" = .*", " = ") + got[i], wants.get(i));
            }
        }
    }

    private static void remove(Path folder) throws IOException {
        try (Stream<Path> all = Files.walk(folder)) {
            for (Path path : all.sorted(Comparator.reverseOrder()).toList()) {
                Files.delete(path);
            }
        }
    }
}
