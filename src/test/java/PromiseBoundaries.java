import java.io.IOException;
import java.util.HashSet;
import java.util.List;
import java.util.Set;
import java.util.function.Supplier;

/** A test of its own for each sentence of the document's promises that names a boundary case. */
public final class PromiseBoundaries {
    private static final int BAD = Subject.BAD;
    private static final int FULL = Subject.FULL;
    private static final int UNSOUND = Subject.UNSOUND;
    private static final int LEAST = Subject.LEAST;
    private static final int GREATEST = Subject.GREATEST;
    private static final int[] OUTSIDE_0_TO_5 = {-1, 6, LEAST, GREATEST};
    private static final int[] OUTSIDE_0_TO_8 = {-1, 9, LEAST, GREATEST};
    private static final int[] OUTSIDE_0_TO_12 = {-1, 13, LEAST, GREATEST};

    private PromiseBoundaries() {
    }

    public static void main(String[] args) throws IOException {
        limits();
        newObject();
        add();
        retract();
        sound();
        put();
        run();
        variable();
        trit();
        printed();
        output();
        clear();
        orderAndLimits();
        Sentences.end("PromiseBoundaries", "Promise ");
    }

    private static void limits() {
        Sentences.under("What it is");
        Sentences.plain("A small language of balanced ternary numbers of nine places.");
        Sentences.boundary("An object is used for at most 512 calls after it has been made; what later calls answer is free.",
            PromiseBoundaries::lastCallIsGood);
    }

    private static void newObject() {
        Sentences.under("Promise 1: A new object");
        Sentences.boundary("An empty program;", PromiseBoundaries::newProgramIsEmpty);
        Sentences.boundary("all variables 0,", PromiseBoundaries::newVariablesAreZero);
        Sentences.boundary("no output.", PromiseBoundaries::newOutputIsEmpty);
    }

    private static void add() {
        Sentences.under("Promise 2: add");
        Sentences.boundary("Adds a statement at the end.", PromiseBoundaries::addsAtTheEnd);
        Sentences.boundary("Tested in this order: 40 statements are there: FULL.", PromiseBoundaries::fullComesFirst);
        Sentences.boundary("kind outside 0..12: BAD.", PromiseBoundaries::kindOutside);
        Sentences.boundary("For all kinds but ZERO, POS and END: a outside 0..5: BAD.", PromiseBoundaries::firstNumberOutside);
        Sentences.boundary("ADD, SUB, MUL, UP, DOWN, LOW: b outside 0..5: BAD.", PromiseBoundaries::secondNumberOutside);
        Sentences.boundary("ADD, SUB, MUL, LOW: c outside 0..5: BAD.", PromiseBoundaries::thirdNumberOutside);
        Sentences.boundary("Numbers that a kind does not have play no part.", PromiseBoundaries::otherNumbersPlayNoPart);
        Sentences.boundary("Else answers the new number of statements.", PromiseBoundaries::addAnswersTheNumber);
    }

    private static void retract() {
        Sentences.under("Promise 3: retract");
        Sentences.boundary("Takes the last statement away;", PromiseBoundaries::retractTakesTheLast);
        Sentences.boundary("answers the new number of statements,", PromiseBoundaries::retractAnswersTheNumber);
        Sentences.boundary("BAD if there was none.", PromiseBoundaries::retractOfNone);
    }

    private static void sound() {
        Sentences.under("Promise 4: sound");
        Sentences.boundary("Whether the program is sound.", PromiseBoundaries::soundForEachProgram);
    }

    private static void put() {
        Sentences.under("Promise 5: put");
        Sentences.boundary("Sets a variable to WRAP(value).", PromiseBoundaries::putWraps);
        Sentences.boundary("v outside 0..5: refused, answers false.", PromiseBoundaries::putOutside);
        Sentences.boundary("Else true.", PromiseBoundaries::putInside);
    }

    private static void run() {
        Sentences.under("Promise 6: run");
        Sentences.boundary("UNSOUND, with nothing changed, if the program is not sound.", PromiseBoundaries::unsoundIsNotRun);
        Sentences.boundary("Else the output becomes empty,", PromiseBoundaries::runEmptiesTheOutput);
        Sentences.boundary("and the program is passed from its first statement to its end, on the variables as they are;",
            PromiseBoundaries::runPassesAll);
        Sentences.boundary("answers the number of values printed.", PromiseBoundaries::runAnswersTheNumber);
    }

    private static void variable() {
        Sentences.under("Promise 7: variable");
        Sentences.boundary("A variable's value;", PromiseBoundaries::variableInside);
        Sentences.boundary("BAD for v outside 0..5.", PromiseBoundaries::variableOutside);
    }

    private static void trit() {
        Sentences.under("Promise 8: trit");
        Sentences.boundary("Trit i (0 to 8) of a variable;", PromiseBoundaries::tritInside);
        Sentences.boundary("BAD if v is outside 0..5", PromiseBoundaries::tritOfNoVariable);
        Sentences.boundary("or i outside 0..8.", PromiseBoundaries::tritOfNoPlace);
    }

    private static void printed() {
        Sentences.under("Promise 9: printed");
        Sentences.boundary("The number of values in the output.", PromiseBoundaries::printedCounts);
    }

    private static void output() {
        Sentences.under("Promise 10: output");
        Sentences.boundary("Value k of the output, from 0;", PromiseBoundaries::outputInside);
        Sentences.boundary("only the first 48 values are kept.", PromiseBoundaries::firstFortyEightAreKept);
        Sentences.boundary("BAD for k outside 0 .. printed() - 1", PromiseBoundaries::outputOutside);
        Sentences.boundary("and for k of 48 or more.", PromiseBoundaries::outputOfFortyEightOrMore);
    }

    private static void clear() {
        Sentences.under("Promise 11: clear");
        Sentences.boundary("Makes everything as in the beginning.", PromiseBoundaries::clearMakesNew);
    }

    private static void orderAndLimits() {
        Sentences.under("Promise 12: Order and limits");
        Sentences.boundary("Where nothing else is said, a call that is refused (by a code below 0 that is named, or by false) changes nothing.",
            PromiseBoundaries::refusedCallsChangeNothing);
    }

    private static void lastCallIsGood() {
        Subject x = new Subject();
        x.put(1, 1);
        x.feed("ADD 0 0 1; PRINT 0");
        for (int n = 1; x.calls() < 507; n++) {
            x.run().is(1);
            x.output(0).is(n);
        }
        x.add("END").is(3);
        x.run().is(UNSOUND);
        x.retract().is(2);
        x.run().is(1);
        x.variable(0).is(253);
        Sentences.due("the number of calls", x.calls(), 512);
    }

    private static void newProgramIsEmpty() {
        new Subject().retract().is(BAD);
        new Subject().sound().is(true);
        new Subject().run().is(0);
        new Subject().add("PRINT 0").is(1);
        Subject x = new Subject();
        for (int n = 1; n <= 40; n++) {
            x.add("PRINT 0").is(n);
        }
        x.add("PRINT 0").is(FULL);
    }

    private static void newVariablesAreZero() {
        Subject x = new Subject();
        for (int v = 0; v <= 5; v++) {
            x.variable(v).is(0);
            for (int i = 0; i <= 8; i++) {
                x.trit(v, i).is(0);
            }
        }
        x.feed("PRINT 0; PRINT 1; PRINT 2; PRINT 3; PRINT 4; PRINT 5").prints(0, 0, 0, 0, 0, 0);
    }

    private static void newOutputIsEmpty() {
        Subject x = new Subject();
        x.printed().is(0);
        int[] places = {LEAST, -1, 0, 1, 47, 48, 49, GREATEST};
        for (int k : places) {
            x.output(k).is(BAD);
        }
        // Adding a PRINT doesn't print.
        x.add("PRINT 0").is(1);
        x.printed().is(0);
        x.output(0).is(BAD);
    }

    private static void addsAtTheEnd() {
        Subject x = new Subject();
        for (int n = 1; n <= 40; n++) {
            x.add("SET 0 " + n).is(n);
            x.run().is(0);
            x.variable(0).is(n);
        }
        Subject order = new Subject();
        for (int n = 0; n < 20; n++) {
            order.feed("ADD 0 0 1; PRINT 0");
        }
        order.put(1, 1);
        order.prints(1, 2, 3, 4, 5, 6, 7, 8, 9, 10, 11, 12, 13, 14, 15, 16, 17, 18, 19, 20);
    }

    private static void fullComesFirst() {
        Subject x = new Subject();
        for (int n = 1; n <= 39; n++) {
            x.add("PRINT 0").is(n);
        }
        // With 39 there is room, so what is wrong otherwise is BAD; with 40 it is FULL.
        dueWhateverElse(x, BAD);
        x.add("PRINT 0").is(40);
        dueWhateverElse(x, FULL);
        for (int kind = 0; kind <= 12; kind++) {
            int of = kind;
            x.add(of, 0, 0, 0).is(FULL);
            States.refused(States.withoutRoom(), FULL, y -> y.add(of, 5, 5, 5));
        }
        for (int kind : OUTSIDE_0_TO_12) {
            States.refused(States.withoutRoom(), FULL, y -> y.add(kind, 0, 0, 0));
        }
        States.refused(States.withoutRoom(), FULL, y -> y.add(1, 6, -1, LEAST));
        x.retract().is(39);
        dueWhateverElse(x, BAD);
    }

    private static void dueWhateverElse(Subject x, int want) {
        x.add(-1, 0, 0, 0).is(want);
        x.add(13, 0, 0, 0).is(want);
        x.add(0, -1, 0, 0).is(want);
        x.add(12, 6, 0, 0).is(want);
        x.add(4, 0, -1, 0).is(want);
        x.add(5, 0, 6, 0).is(want);
        x.add(1, 0, 0, -1).is(want);
        x.add(6, 0, 0, 6).is(want);
        x.add(LEAST, LEAST, LEAST, LEAST).is(want);
        x.add(GREATEST, GREATEST, GREATEST, GREATEST).is(want);
    }

    private static void kindOutside() {
        for (int kind : OUTSIDE_0_TO_12) {
            States.refused(States.withRoom(), BAD, x -> x.add(kind, 0, 0, 0));
            States.refused(States.withRoom(), BAD, x -> x.add(kind, -1, 6, 6));
        }
        for (int kind = 0; kind <= 12; kind++) {
            new Subject().add(kind, 0, 0, 0).is(1);
        }
    }

    private static final List<String> WITHOUT_A = List.of("ZERO", "POS", "END");
    private static final List<String> WITH_B = List.of("ADD", "SUB", "MUL", "UP", "DOWN", "LOW");
    private static final List<String> WITH_C = List.of("ADD", "SUB", "MUL", "LOW");

    private static void firstNumberOutside() {
        for (String name : Subject.KINDS) {
            int kind = Subject.KINDS.indexOf(name);
            for (int v = 0; v <= 5; v++) {
                new Subject().add(kind, v, 0, 0).is(1);
            }
            for (int outside : OUTSIDE_0_TO_5) {
                if (WITHOUT_A.contains(name)) {
                    new Subject().add(kind, outside, 0, 0).is(1);
                } else {
                    States.refused(States.withRoom(), BAD, x -> x.add(kind, outside, 0, 0));
                }
            }
        }
    }

    private static void secondNumberOutside() {
        for (String name : WITH_B) {
            int kind = Subject.KINDS.indexOf(name);
            for (int v = 0; v <= 5; v++) {
                new Subject().add(kind, 0, v, 0).is(1);
            }
            for (int outside : OUTSIDE_0_TO_5) {
                States.refused(States.withRoom(), BAD, x -> x.add(kind, 0, outside, 0));
            }
        }
    }

    private static void thirdNumberOutside() {
        for (String name : WITH_C) {
            int kind = Subject.KINDS.indexOf(name);
            for (int v = 0; v <= 5; v++) {
                new Subject().add(kind, 0, 0, v).is(1);
            }
            for (int outside : OUTSIDE_0_TO_5) {
                States.refused(States.withRoom(), BAD, x -> x.add(kind, 0, 0, outside));
            }
        }
    }

    private static void otherNumbersPlayNoPart() {
        for (String name : Subject.KINDS) {
            int kind = Subject.KINDS.indexOf(name);
            int[] others = {-1, 5, 6, LEAST, GREATEST};
            for (int other : others) {
                int a = WITHOUT_A.contains(name) ? other : 1;
                // The b of SET is any number, and it does play a part.
                int b = WITH_B.contains(name) || name.equals("SET") ? 2 : other;
                int c = WITH_C.contains(name) ? 3 : other;
                new Subject().add(kind, a, b, c).is(1);
                int[] choosing = {-4, 0, 4};
                for (int value : choosing) {
                    States.same(() -> around(value, kind, a, b, c), () -> around(value, kind, 1, 2, 3));
                }
            }
        }
        int[] numbers = {-1, 6, LEAST, GREATEST};
        for (int number : numbers) {
            new Subject().add(0, 0, number, 0).is(1);
        }
    }

    /** A program with this statement in its middle, sound and with choices that go by this value of variable 1. */
    private static Subject around(int value, int kind, int a, int b, int c) {
        Subject x = new Subject();
        int[] values = {3, value, 5, 6, 7, 8};
        for (int v = 0; v < values.length; v++) {
            x.put(v, values[v]);
        }
        String name = Subject.KINDS.get(kind);
        boolean parts = name.equals("ZERO") || name.equals("POS");
        x.feed(parts ? "CASE 1; PRINT 0" : name.equals("END") ? "LOOP 2; PRINT 0" : "PRINT 0");
        x.add(kind, a, b, c);
        if (name.equals("CASE")) {
            x.feed("PRINT 2; ZERO; PRINT 3; POS; PRINT 4; END");
        } else if (parts || name.equals("LOOP")) {
            x.feed("PRINT 2; END");
        }
        return x.feed("PRINT 1; PRINT 5");
    }

    private static void addAnswersTheNumber() {
        for (int kind = 0; kind <= 12; kind++) {
            Subject x = new Subject();
            for (int n = 1; n <= 40; n++) {
                x.add(kind, n % 6, n % 6, n % 6).is(n);
            }
            x.add(kind, 0, 0, 0).is(FULL);
            x.retract().is(39);
            x.add(kind, 5, 5, 5).is(40);
            x.add(kind, 0, 0, 0).is(FULL);
        }
    }

    private static void retractTakesTheLast() {
        Subject x = new Subject();
        for (int n = 1; n <= 40; n++) {
            x.add("SET 0 " + n);
        }
        for (int n = 39; n >= 1; n--) {
            x.retract().is(n);
            x.run().is(0);
            x.variable(0).is(n);
        }
        x.retract().is(0);
        x.put(0, 55);
        x.run().is(0);
        x.variable(0).is(55);
        // What was taken away doesn't come back with the next statement.
        x.add("PRINT 0").is(1);
        x.prints(55);
    }

    private static void retractAnswersTheNumber() {
        Subject x = new Subject();
        x.add("END").is(1);
        x.retract().is(0);
        for (int n = 1; n <= 40; n++) {
            x.add("LOOP 5").is(n);
        }
        for (int n = 39; n >= 0; n--) {
            x.retract().is(n);
        }
        x.retract().is(BAD);
    }

    private static void retractOfNone() {
        States.refused(States.withoutStatements(), BAD, Subject::retract);
        Subject x = new Subject();
        x.retract().is(BAD);
        x.retract().is(BAD);
        x.add("PRINT 0").is(1);
        x.retract().is(0);
        x.retract().is(BAD);
        x.add("PRINT 0").is(1);
        Subject cleared = States.full().clear();
        cleared.retract().is(BAD);
        cleared.add("PRINT 0").is(1);
    }

    /** Every program of up to eight statements that open, close or part something. */
    private static void soundForEachProgram() {
        Set<String> soundOnes = new HashSet<>();
        for (int length = 0; length <= 8; length++) {
            soundOnes.addAll(soundOfLength(length, 3));
        }
        int[] kinds = {7, 8, 9, 10, 11};
        int[] digits = new int[8];
        for (int length = 0, count = 1; length <= 8; length++, count *= 5) {
            for (int number = 0; number < count; number++) {
                TernaryCompiler x = new TernaryCompiler();
                StringBuilder letters = new StringBuilder();
                for (int i = 0, rest = number; i < length; i++, rest /= 5) {
                    digits[i] = rest % 5;
                    x.add(kinds[digits[i]], 1, 0, 0);
                    letters.append("CZPLE".charAt(digits[i]));
                }
                Sentences.due("sound() of " + letters, x.sound() ? 1 : 0, soundOnes.contains(letters.toString()) ? 1 : 0);
            }
        }
        new Subject().sound().is(true);
        Subject full = new Subject();
        for (int n = 0; n < 20; n++) {
            full.sound().is(true);
            full.add(n % 2 == 0 ? "CASE 5" : "LOOP 5");
            full.sound().is(false);
            full.add("END");
        }
        full.sound().is(true);
        full.add("END").is(FULL);
        full.sound().is(true);
        full.retract();
        full.sound().is(false);
        full.add("LOOP 0").is(40);
        full.sound().is(false);
    }

    /** The sound programs of this length, made by what a choice and a loop may hold and not by counting what is open. */
    private static Set<String> soundOfLength(int length, int depth) {
        Set<String> made = new HashSet<>();
        if (length == 0) {
            made.add("");
        }
        if (depth == 0) {
            return made;
        }
        for (int first = 2; first <= length; first++) {
            for (String after : soundOfLength(length - first, depth)) {
                for (String inside : soundOfLength(first - 2, depth - 1)) {
                    made.add("L" + inside + "E" + after);
                }
                for (String inside : sectionsOfLength(first - 2, depth - 1)) {
                    made.add("C" + inside + "E" + after);
                }
            }
        }
        return made;
    }

    private static Set<String> sectionsOfLength(int length, int depth) {
        Set<String> made = new HashSet<>(soundOfLength(length, depth));
        for (int first = 0; first < length; first++) {
            for (String negative : soundOfLength(first, depth)) {
                for (String other : soundOfLength(length - first - 1, depth)) {
                    made.add(negative + "Z" + other);
                    made.add(negative + "P" + other);
                }
                for (int second = 0; second < length - first - 1; second++) {
                    for (String zero : soundOfLength(second, depth)) {
                        for (String positive : soundOfLength(length - first - second - 2, depth)) {
                            made.add(negative + "Z" + zero + "P" + positive);
                        }
                    }
                }
            }
        }
        return made;
    }

    private static void putWraps() {
        int[][] pairs = {
            {0, 0}, {9840, 9840}, {9841, 9841}, {9842, -9841}, {9843, -9840}, {-9840, -9840}, {-9841, -9841}, {-9842, 9841}, {-9843, 9840},
            {19682, -1}, {19683, 0}, {19684, 1}, {-19682, 1}, {-19683, 0}, {-19684, -1}, {29524, 9841}, {29525, -9841},
            {-29524, -9841}, {-29525, 9841}, {GREATEST, 9298}, {GREATEST - 1, 9297}, {LEAST, -9299}, {LEAST + 1, -9298},
        };
        for (int v = 0; v <= 5; v++) {
            Subject x = new Subject();
            for (int[] pair : pairs) {
                x.put(v, 77);
                x.put(v, pair[0]);
                x.variable(v).is(pair[1]);
            }
            for (int other = 0; other <= 5; other++) {
                x.variable(other).is(other == v ? -9298 : 0);
            }
        }
    }

    private static void putOutside() {
        int[] values = {0, 7, 9841, 9842, -9842, LEAST, GREATEST};
        for (int outside : OUTSIDE_0_TO_5) {
            for (int value : values) {
                States.refused(States.all(), 0, x -> x.put(outside, value));
            }
        }
    }

    private static void putInside() {
        int[] values = {0, 7, 9841, 9842, -9841, -9842, LEAST, GREATEST};
        for (int v = 0; v <= 5; v++) {
            for (int value : values) {
                int of = v;
                States.forEach(States.all(), x -> x.put(of, value).is(true));
            }
        }
    }

    private static final List<String> UNSOUND_PROGRAMS = List.of(
        "END", "ZERO", "POS", "CASE 0", "LOOP 0", "LOOP 5",
        "SET 0 1; PRINT 0; END", "SET 0 1; PRINT 0; LOOP 1", "SET 0 1; PRINT 0; CASE 0",
        "LOOP 1; SET 0 1; PRINT 0; ZERO; END", "LOOP 1; SET 0 1; PRINT 0; POS; END",
        "PRINT 0; SET 0 1; CASE 0; ZERO; ZERO; END", "PRINT 0; SET 0 1; CASE 0; POS; POS; END", "PRINT 0; SET 0 1; CASE 0; POS; ZERO; END",
        "PRINT 0; SET 0 1; LOOP 1; LOOP 1; LOOP 1; LOOP 1; END; END; END; END");

    private static void unsoundIsNotRun() {
        States.refused(States.notSound(), UNSOUND, Subject::run);
        for (String program : UNSOUND_PROGRAMS) {
            States.refused(List.of(() -> States.fresh().feed(program)), UNSOUND, Subject::run);
            States.refused(List.of(() -> States.emptied().feed(program)), UNSOUND, Subject::run);
            States.refused(List.of(() -> States.ready().feed(program)), UNSOUND, Subject::run);
        }
        Subject x = printing(48);
        x.run().is(48);
        x.add("END");
        x.run().is(UNSOUND);
        x.printed().is(48);
        x.output(0).is(0);
        x.output(47).is(47);
        x.variable(0).is(48);
        x.retract();
        x.run().is(48);
        x.output(0).is(48);
    }

    /** A program that prints variable 0 this many times, each time one more. */
    private static Subject printing(int values) {
        Subject x = new Subject();
        x.put(1, 1);
        x.feed("LOOP 5; " + "PRINT 0; ADD 0 0 1; ".repeat(values / 5) + "END; ");
        x.feed("PRINT 0; ADD 0 0 1; ".repeat(values % 5));
        return x;
    }

    private static void runEmptiesTheOutput() {
        int[] before = {1, 47, 48, 49, 50};
        for (int values : before) {
            // Nothing of an earlier run is left, whether the next one prints nothing, one value or as many again.
            Subject none = printing(values);
            none.run().is(values);
            while (none.retract().got > 0) {
                continue;
            }
            none.printed().is(values);
            none.run().is(0);
            none.printed().is(0);
            none.output(0).is(BAD);
            none.output(values - 1).is(BAD);
            none.add("PRINT 0");
            none.prints(values);
            Subject again = printing(values);
            again.run().is(values);
            again.run().is(values);
            again.printed().is(values);
            again.output(0).is(values);
            again.output(Math.min(values, 48) - 1).is(values + Math.min(values, 48) - 1);
            again.output(values).is(BAD);
        }
    }

    private static void runPassesAll() {
        Subject none = States.emptied();
        none.run().is(0);
        none.printed().is(0);
        int[] values = {-9840, 9839, 1, 1, -1, -6351};
        Subject ready = States.ready();
        for (int v = 0; v <= 5; v++) {
            ready.variable(v).is(values[v]);
        }
        int[] outputs = {-9841, 9841, 9840, BAD};
        for (int k = 0; k < outputs.length; k++) {
            ready.output(k).is(outputs[k]);
        }
        Subject full = new Subject().feed("SET 0 0; ".concat("ADD 0 0 1; ".repeat(38)).concat("PRINT 0"));
        full.put(0, 500);
        full.put(1, 1);
        full.prints(38);
        // The first and the fortieth are passed too, and a second run begins where the first one left the variables.
        Subject again = new Subject().feed("ADD 0 0 1; ".repeat(40));
        again.put(1, 1);
        again.run().is(0);
        again.variable(0).is(40);
        again.run().is(0);
        again.variable(0).is(80);
        again.put(0, 9841);
        again.run().is(0);
        again.variable(0).is(-9802);
        // No program passes more statements than this one.
        Subject longest = new Subject().feed("LOOP 5; LOOP 5; LOOP 5; " + "ADD 0 0 1; ".repeat(34) + "END; END; END");
        longest.put(1, 1);
        longest.run().is(0);
        longest.variable(0).is(4250);
        Subject behind = new Subject().feed("LOOP 5; LOOP 5; LOOP 5; " + "ADD 0 0 1; ".repeat(33) + "END; END; END; PRINT 0");
        behind.put(1, 1);
        behind.prints(4125);
        Subject loops = new Subject().feed("LOOP 5; LOOP 5; " + "LOOP 5; ADD 0 0 1; END; ".repeat(11) + "END; END; PRINT 0; ADD 2 2 1; PRINT 2");
        loops.put(1, 1);
        loops.prints(1375, 1);
    }

    private static final int[] NUMBERS_PRINTED = {0, 1, 5, 46, 47, 48, 49, 50, 54};

    private static void runAnswersTheNumber() {
        for (int values : NUMBERS_PRINTED) {
            printing(values).run().is(values);
        }
        new Subject().run().is(0);
        new Subject().feed("LOOP 0; PRINT 0; END").run().is(0);
        new Subject().feed("PRINT 0; ".repeat(40)).run().is(40);
        // The most that 40 statements can print.
        new Subject().feed("LOOP 5; LOOP 5; LOOP 5; " + "PRINT 0; ".repeat(34) + "END; END; END").run().is(4250);
    }

    private static void variableInside() {
        int[] values = {-9841, 9841, 0, 1, -1, 6561};
        Subject x = new Subject();
        for (int v = 0; v <= 5; v++) {
            x.put(v, values[v]);
        }
        for (int v = 0; v <= 5; v++) {
            x.variable(v).is(values[v]);
            x.variable(v).is(values[v]);
        }
    }

    private static void variableOutside() {
        for (int outside : OUTSIDE_0_TO_5) {
            States.refused(States.all(), BAD, x -> x.variable(outside));
        }
        States.forEach(States.all(), x -> Sentences.due("variable(0) is a value", Math.abs(x.variable(0).got) <= 9841 ? 1 : 0, 1));
        States.forEach(States.all(), x -> Sentences.due("variable(5) is a value", Math.abs(x.variable(5).got) <= 9841 ? 1 : 0, 1));
    }

    private static void tritInside() {
        int weight = 1;
        for (int i = 0; i <= 8; i++) {
            for (int v = 0; v <= 5; v++) {
                Subject x = new Subject();
                x.put(v, weight);
                x.put((v + 1) % 6, -9841);
                for (int place = 0; place <= 8; place++) {
                    x.trit(v, place).is(place == i ? 1 : 0);
                    x.trit((v + 1) % 6, place).is(-1);
                    x.trit((v + 2) % 6, place).is(0);
                }
                x.put(v, -weight);
                x.trit(v, i).is(-1);
            }
            weight *= 3;
        }
        Subject edges = new Subject();
        edges.put(0, 9841);
        edges.put(5, 9842);
        for (int i = 0; i <= 8; i++) {
            edges.trit(0, i).is(1);
            edges.trit(5, i).is(-1);
        }
    }

    private static void tritOfNoVariable() {
        for (int outside : OUTSIDE_0_TO_5) {
            for (int i = 0; i <= 8; i++) {
                new Subject().trit(outside, i).is(BAD);
            }
            States.refused(States.all(), BAD, x -> x.trit(outside, 0));
            States.refused(States.all(), BAD, x -> x.trit(outside, 8));
        }
    }

    private static void tritOfNoPlace() {
        for (int outside : OUTSIDE_0_TO_8) {
            for (int v = 0; v <= 5; v++) {
                new Subject().trit(v, outside).is(BAD);
            }
            States.refused(States.all(), BAD, x -> x.trit(0, outside));
            States.refused(States.all(), BAD, x -> x.trit(5, outside));
            for (int noVariable : OUTSIDE_0_TO_5) {
                new Subject().trit(noVariable, outside).is(BAD);
            }
        }
    }

    private static void printedCounts() {
        for (int values : NUMBERS_PRINTED) {
            Subject x = printing(values);
            x.printed().is(0);
            x.run();
            x.printed().is(values);
            // What isn't a run leaves the output as it is.
            x.output(0);
            x.put(0, 5);
            x.add("PRINT 0");
            x.retract();
            x.sound();
            x.printed().is(values);
        }
        Subject most = new Subject().feed("LOOP 5; LOOP 5; LOOP 5; " + "PRINT 0; ".repeat(34) + "END; END; END");
        most.run();
        most.printed().is(4250);
    }

    private static void outputInside() {
        for (int values : NUMBERS_PRINTED) {
            Subject x = printing(values);
            x.run();
            for (int k = 0; k < Math.min(values, 48); k++) {
                x.output(k).is(k);
            }
        }
        Subject edges = new Subject().feed("PRINT 0; PRINT 1; SET 0 5; SET 1 5");
        edges.put(0, -9841);
        edges.put(1, 9841);
        edges.prints(-9841, 9841);
        // A value printed stays what it was when its variable changes.
        edges.put(0, 1);
        edges.output(0).is(-9841);
    }

    private static void firstFortyEightAreKept() {
        int[] numbers = {47, 48, 49, 54};
        for (int values : numbers) {
            Subject x = printing(values);
            x.run().is(values);
            x.output(0).is(0);
            x.output(46).is(46);
            x.output(47).is(values > 47 ? 47 : BAD);
            x.output(48).is(BAD);
            // The next run has 48 places again.
            x.run().is(values);
            x.output(0).is(values);
            x.output(46).is(values + 46);
            x.output(47).is(values > 47 ? values + 47 : BAD);
            x.output(48).is(BAD);
        }
        Subject most = new Subject().feed("LOOP 5; LOOP 5; LOOP 5; " + "PRINT 0; ADD 0 0 1; ".repeat(17) + "END; END; END");
        most.put(1, 1);
        most.run().is(2125);
        for (int k = 0; k <= 47; k++) {
            most.output(k).is(k);
        }
        most.output(48).is(BAD);
        most.output(2124).is(BAD);
    }

    private static void outputOutside() {
        for (int values : NUMBERS_PRINTED) {
            int[] outside = {-1, values, values + 1, LEAST, GREATEST};
            for (int k : outside) {
                States.refused(List.of(() -> {
                    Subject x = printing(values);
                    x.run();
                    return x;
                }), BAD, x -> x.output(k));
            }
            Subject x = printing(values);
            x.output(0).is(BAD);
            x.run();
            x.output(0).is(values > 0 ? 0 : BAD);
            x.output(values - 1).is(values > 0 && values <= 48 ? values - 1 : BAD);
        }
        // A shorter run after a longer one: the places in between aren't in the output any more.
        Subject shorter = printing(50);
        shorter.run();
        shorter.clear();
        shorter.feed("PRINT 0; PRINT 0");
        shorter.run().is(2);
        for (int k = 2; k <= 50; k++) {
            shorter.output(k).is(BAD);
        }
        Subject choosing = new Subject().feed("CASE 0; PRINT 0; ZERO; LOOP 5; PRINT 0; PRINT 0; END; END");
        choosing.run().is(10);
        choosing.put(0, -1);
        choosing.prints(-1);
        for (int k = 1; k <= 10; k++) {
            choosing.output(k).is(BAD);
        }
    }

    private static void outputOfFortyEightOrMore() {
        int[] numbers = {0, 1, 47, 48, 49, 50, 54};
        int[] places = {48, 49, 50, 53, 54, GREATEST};
        for (int values : numbers) {
            for (int k : places) {
                States.refused(List.of(() -> {
                    Subject x = printing(values);
                    x.run();
                    return x;
                }), BAD, x -> x.output(k));
            }
        }
        Subject most = new Subject().feed("LOOP 5; LOOP 5; LOOP 5; " + "PRINT 0; ".repeat(34) + "END; END; END");
        most.run();
        most.output(47).is(0);
        for (int k = 48; k <= 4251; k += 13) {
            most.output(k).is(BAD);
        }
    }

    private static void clearMakesNew() {
        for (Supplier<Subject> state : States.all()) {
            States.same(() -> state.get().clear(), States::fresh);
            States.same(() -> state.get().clear().clear(), States::fresh);
        }
        Subject x = States.full().clear();
        for (int v = 0; v <= 5; v++) {
            x.variable(v).is(0);
        }
        x.printed().is(0);
        x.output(0).is(BAD);
        x.output(47).is(BAD);
        x.retract().is(BAD);
        x.sound().is(true);
        x.run().is(0);
        for (int n = 1; n <= 40; n++) {
            x.add("PRINT 0").is(n);
        }
        x.add("PRINT 0").is(FULL);
        x.run().is(40);
        x.output(0).is(0);
        // A loop that was left open plays no part in the program after it.
        Subject open = States.fullUnsound().clear();
        open.add("END").is(1);
        open.sound().is(false);
    }

    private static void refusedCallsChangeNothing() {
        States.refused(States.withRoom(), BAD, x -> {
            refusedEverywhere(x, BAD);
            return x.add(13, 0, 0, 0);
        });
        States.refused(States.withoutRoom(), FULL, x -> {
            refusedEverywhere(x, FULL);
            return x.add("PRINT 0");
        });
        States.refused(States.withoutStatements(), BAD, x -> {
            refusedEverywhere(x, BAD);
            return x.retract();
        });
        States.refused(States.notSound(), UNSOUND, x -> {
            x.run().is(UNSOUND);
            x.put(6, 1).is(false);
            x.output(-1).is(BAD);
            return x.run();
        });
    }

    private static void refusedEverywhere(Subject x, int addAnswer) {
        x.add(-1, 0, 0, 0).is(addAnswer);
        x.add(13, 0, 0, 0).is(addAnswer);
        x.add(0, 6, 9, 0).is(addAnswer);
        x.add(1, 0, -1, 0).is(addAnswer);
        x.add(6, 0, 0, 6).is(addAnswer);
        x.put(-1, 7).is(false);
        x.put(6, 7).is(false);
        x.variable(-1).is(BAD);
        x.variable(6).is(BAD);
        x.trit(-1, 0).is(BAD);
        x.trit(6, 0).is(BAD);
        x.trit(0, -1).is(BAD);
        x.trit(0, 9).is(BAD);
        x.output(-1).is(BAD);
        x.output(48).is(BAD);
    }
}
