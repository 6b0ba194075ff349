import java.util.ArrayList;
import java.util.List;
import java.util.function.Consumer;
import java.util.function.Function;
import java.util.function.Supplier;

/** States of an object to begin a test from, and whether a call left everything as it was. */
final class States {
    private States() {
    }

    static Subject fresh() {
        return new Subject();
    }

    private static Subject withVariables() {
        Subject x = new Subject();
        int[] values = {-9841, 9841, 1, -1, 0, 4444};
        for (int v = 0; v < values.length; v++) {
            x.put(v, values[v]);
        }
        return x;
    }

    /** Three values printed, and each statement shows in what a run does. */
    static Subject ready() {
        Subject x = withVariables();
        x.feed("PRINT 0; ADD 0 0 2; LOOP 2; PRINT 1; SUB 1 1 2; END; CASE 3; UP 5 5; ZERO; SET 4 9; POS; DOWN 5 5; END; LOW 4 4 1; MUL 3 3 3");
        x.run();
        return x;
    }

    /** Values printed and variables set, but all statements taken away again. */
    static Subject emptied() {
        Subject x = ready();
        while (x.retract().got > 0) {
            continue;
        }
        return x;
    }

    /** Not sound, with the output of the time when it was. */
    static Subject unsound() {
        return ready().feed("LOOP 5; PRINT 4; SET 4 77");
    }

    /** Room for one statement more. */
    static Subject nearlyFull() {
        Subject x = withVariables();
        for (int n = 0; n < 19; n++) {
            x.feed("PRINT " + n % 6 + "; SUB " + n % 6 + " 5 " + (n + 1) % 6);
        }
        x.feed("PRINT 1");
        x.run();
        return x;
    }

    /** All 40 statements, and more values printed than are kept. */
    static Subject full() {
        Subject x = withVariables();
        x.feed("LOOP 5; LOOP 2");
        for (int n = 0; n < 18; n++) {
            x.feed("PRINT " + n % 6 + "; ADD " + n % 6 + " 5 " + (n + 1) % 6);
        }
        x.feed("END; END");
        x.run();
        return x;
    }

    /** All 40 statements, the last of which is open. */
    static Subject fullUnsound() {
        return nearlyFull().feed("CASE 0");
    }

    static List<Supplier<Subject>> withRoom() {
        return List.of(States::fresh, States::ready, States::emptied, States::unsound, States::nearlyFull);
    }

    static List<Supplier<Subject>> withoutRoom() {
        return List.of(States::full, States::fullUnsound);
    }

    static List<Supplier<Subject>> withoutStatements() {
        return List.of(States::fresh, States::emptied);
    }

    static List<Supplier<Subject>> notSound() {
        return List.of(States::unsound, States::fullUnsound);
    }

    static List<Supplier<Subject>> all() {
        List<Supplier<Subject>> all = new ArrayList<>(withRoom());
        all.addAll(withoutRoom());
        return all;
    }

    /** From each of the states the call is refused with this answer, and everything stays as it was. */
    static void refused(List<Supplier<Subject>> states, long answer, Function<Subject, Subject.Answer> call) {
        for (Supplier<Subject> state : states) {
            same(() -> {
                Subject x = state.get();
                call.apply(x).is(answer);
                return x;
            }, state);
        }
    }

    /** All that can be asked, now and later, is answered alike. Each way of asking has objects of its own. */
    static void same(Supplier<Subject> made, Supplier<Subject> like) {
        List<Function<Subject, List<Subject.Answer>>> ways = List.of(
            States::asked, States::runAndAsked, States::unwound, States::closed, States::filled);
        for (Function<Subject, List<Subject.Answer>> way : ways) {
            List<Subject.Answer> got = way.apply(made.get());
            List<Subject.Answer> want = way.apply(like.get());
            Sentences.due("the number of calls made", got.size(), want.size());
            for (int i = 0; i < Math.min(got.size(), want.size()); i++) {
                got.get(i).is(want.get(i).got);
            }
        }
    }

    private static List<Subject.Answer> asked(Subject x) {
        List<Subject.Answer> answers = new ArrayList<>();
        answers.add(x.printed());
        for (int k = -1; k <= 50; k++) {
            answers.add(x.output(k));
        }
        for (int v = 0; v <= 5; v++) {
            answers.add(x.variable(v));
            for (int i = 0; i <= 8; i++) {
                answers.add(x.trit(v, i));
            }
        }
        answers.add(x.sound());
        return answers;
    }

    private static List<Subject.Answer> runAndAsked(Subject x) {
        List<Subject.Answer> answers = new ArrayList<>();
        answers.add(x.run());
        answers.addAll(asked(x));
        return answers;
    }

    /** Takes statement by statement away, with a run after each, so that each statement that is there shows. */
    private static List<Subject.Answer> unwound(Subject x) {
        List<Subject.Answer> answers = new ArrayList<>();
        for (int n = 0; n <= 40; n++) {
            answers.add(x.retract());
            answers.add(x.run());
            for (int v = 0; v <= 5; v++) {
                answers.add(x.variable(v));
            }
        }
        return answers;
    }

    /** Closes what is open, so that the statements in it show too. */
    private static List<Subject.Answer> closed(Subject x) {
        List<Subject.Answer> answers = new ArrayList<>();
        for (int n = 0; n < 3; n++) {
            Subject.Answer sound = x.sound();
            answers.add(sound);
            if (sound.got == 0) {
                answers.add(x.add("END"));
            }
        }
        answers.addAll(runAndAsked(x));
        return answers;
    }

    /** Adds until there is no room, so that the place of the next statement shows. */
    private static List<Subject.Answer> filled(Subject x) {
        List<Subject.Answer> answers = new ArrayList<>();
        for (int n = 0; n <= 40; n++) {
            answers.add(x.add("PRINT " + n % 6));
        }
        answers.addAll(runAndAsked(x));
        return answers;
    }

    static void forEach(List<Supplier<Subject>> states, Consumer<Subject> test) {
        for (Supplier<Subject> state : states) {
            test.accept(state.get());
        }
    }
}
