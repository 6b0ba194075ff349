import java.util.ArrayList;
import java.util.List;

/** A new object of the class, whose calls are counted, as nothing is promised after the 512th. */
final class Subject {
    static final int BAD = -10000;
    static final int FULL = -10001;
    static final int UNSOUND = -10002;
    static final int LEAST = Integer.MIN_VALUE;
    static final int GREATEST = Integer.MAX_VALUE;
    static final List<String> KINDS =
        List.of("SET", "ADD", "SUB", "MUL", "UP", "DOWN", "LOW", "CASE", "ZERO", "POS", "LOOP", "END", "PRINT");

    private static final int MOST_CALLS = 512;
    private static final int TOLD_BEFORE = 12;

    private final TernaryCompiler object = new TernaryCompiler();
    private final List<String> calls = new ArrayList<>();

    /** What a call answered; a boolean counts 1 or 0. */
    static final class Answer {
        final String call;
        final long got;
        private final Subject subject;

        Answer(Subject subject, String call, long got) {
            this.subject = subject;
            this.call = call;
            this.got = got;
        }

        void is(long want) {
            Sentences.due(got == want ? call : subject.history(), got, want);
        }

        void is(boolean want) {
            is(want ? 1 : 0);
        }
    }

    private void count(String call) {
        calls.add(call);
        if (calls.size() > MOST_CALLS) {
            throw new IllegalStateException("a test makes more than 512 calls on one object");
        }
    }

    private String history() {
        int from = Math.max(0, calls.size() - TOLD_BEFORE);
        String before = from == 0 ? "" : ".. " + from + " calls more .. ";
        return before + String.join(" ", calls.subList(from, calls.size()));
    }

    int calls() {
        return calls.size();
    }

    Answer add(int kind, int a, int b, int c) {
        String call = "add(" + kind + ", " + a + ", " + b + ", " + c + ")";
        count(call);
        return new Answer(this, call, object.add(kind, a, b, c));
    }

    /** Adds a statement that is written as in the document, such as "SET 0 1"; a number left out is 0. */
    Answer add(String statement) {
        String[] words = statement.trim().split(" +");
        int[] numbers = new int[3];
        for (int i = 1; i < words.length; i++) {
            numbers[i - 1] = Integer.parseInt(words[i]);
        }
        return add(KINDS.indexOf(words[0]), numbers[0], numbers[1], numbers[2]);
    }

    /** Adds the statements of a text such as "LOOP 3; PRINT 0; END". */
    Subject feed(String program) {
        for (String statement : program.split(";")) {
            if (!statement.isBlank() && add(statement).got < 0) {
                throw new IllegalStateException("refused: " + history());
            }
        }
        return this;
    }

    Answer retract() {
        count("retract()");
        return new Answer(this, "retract()", object.retract());
    }

    Answer sound() {
        count("sound()");
        return new Answer(this, "sound()", object.sound() ? 1 : 0);
    }

    Answer put(int v, int value) {
        String call = "put(" + v + ", " + value + ")";
        count(call);
        return new Answer(this, call, object.put(v, value) ? 1 : 0);
    }

    Answer run() {
        count("run()");
        return new Answer(this, "run()", object.run());
    }

    Answer variable(int v) {
        String call = "variable(" + v + ")";
        count(call);
        return new Answer(this, call, object.variable(v));
    }

    Answer trit(int v, int i) {
        String call = "trit(" + v + ", " + i + ")";
        count(call);
        return new Answer(this, call, object.trit(v, i));
    }

    Answer printed() {
        count("printed()");
        return new Answer(this, "printed()", object.printed());
    }

    Answer output(int k) {
        String call = "output(" + k + ")";
        count(call);
        return new Answer(this, call, object.output(k));
    }

    Subject clear() {
        count("clear()");
        object.clear();
        return this;
    }

    /** Runs the program and looks at all of the output. */
    void prints(int... wants) {
        run().is(wants.length);
        printed().is(wants.length);
        for (int k = 0; k < wants.length; k++) {
            output(k).is(wants[k]);
        }
        output(wants.length).is(BAD);
    }
}
