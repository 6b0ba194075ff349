import java.io.IOException;
import java.nio.file.Files;
import java.nio.file.Path;
import java.util.ArrayList;
import java.util.LinkedHashMap;
import java.util.List;
import java.util.Map;

/**
 * Goes through the document sentence by sentence: each has a test of its own, or is said to name no boundary case. The
 * quotes are compared with the document, so that no sentence is left out and none is tested in words it doesn't have.
 */
final class Sentences {
    private static final Path DOCUMENT = Path.of("../shared/DOC.md");
    private static final int MOST_TOLD = 5;

    private static final Map<String, List<String>> quotes = new LinkedHashMap<>();
    private static String heading = "";
    private static int tested = 0;
    private static int broken = 0;
    private static long answers = 0;
    private static int wrong = 0;

    private Sentences() {
    }

    static void under(String title) {
        heading = title;
        quotes.put(title, new ArrayList<>());
    }

    /** A sentence that names no boundary case. */
    static void plain(String quote) {
        quotes.get(heading).add(quote);
    }

    /** A sentence, or a part of a long one, that names a boundary case, and the test of it. */
    static void boundary(String quote, Runnable test) {
        quotes.get(heading).add(quote);
        tested++;
        wrong = 0;
        long before = answers;
        try {
            test.run();
        } catch (RuntimeException | StackOverflowError fault) {
            tellWrong("the test ended with " + fault);
        }
        if (wrong == 0 && answers == before) {
            tellWrong("the test looked at no answer");
        }
        if (wrong > 0) {
            broken++;
            System.out.println("broken, " + wrong + " wrong: " + heading + ", \"" + quote + "\"");
        }
    }

    static void due(String what, long got, long want) {
        answers++;
        if (got != want) {
            tellWrong(what + " answered " + got + ", due is " + want);
        }
    }

    private static void tellWrong(String what) {
        wrong++;
        if (wrong <= MOST_TOLD) {
            System.out.println("  " + what);
        }
    }

    /** Ends the program: with exit code 1 if a sentence is broken or the quotes aren't the document's. */
    static void end(String name, String headingsBeginWith) throws IOException {
        Map<String, String> document = sections(Files.readString(DOCUMENT));
        int unlike = 0;
        for (String title : document.keySet()) {
            if (title.startsWith(headingsBeginWith) && !quotes.containsKey(title)) {
                unlike++;
                System.out.println("no sentence is quoted of: " + title);
            }
        }
        for (String title : quotes.keySet()) {
            String quoted = onOneLine(String.join(" ", quotes.get(title)));
            if (!quoted.equals(document.get(title))) {
                unlike++;
                System.out.println("quoted of " + title + ": " + quoted + "\nthe document has: " + document.get(title));
            }
        }
        System.out.println(name + ": " + tested + " sentences, " + answers + " answers, " + broken + " broken, "
            + unlike + " unlike the document");
        if (broken + unlike != 0) {
            System.exit(1);
        }
    }

    /** The text under each heading, without the methods' heads, as these are no sentences. */
    private static Map<String, String> sections(String document) {
        Map<String, String> sections = new LinkedHashMap<>();
        for (String section : document.split("(?m)^## ")) {
            int end = section.indexOf('\n');
            String text = section.substring(end + 1).replaceAll("(?m)^```.*$", " ").replaceAll("(?m)^`[^`]*`: ", "");
            sections.put(section.substring(0, end).trim(), onOneLine(text));
        }
        return sections;
    }

    private static String onOneLine(String text) {
        return text.trim().replaceAll("\\s+", " ");
    }
}
