/** Tests of each promise of the document by its number: ordinary inputs, named edges, wrong inputs. */
public final class PromiseTests {
    private static final int BAD = -10000;
    private static final int FULL = -10001;
    private static final int UNSOUND = -10002;
    private static final int[] OUTSIDE_VARIABLES = {-1, 6, 7, Integer.MIN_VALUE, Integer.MAX_VALUE};

    private static int passed = 0;
    private static int failed = 0;

    private static void due(int promise, String what, long got, long want) {
        if (got == want) {
            passed++;
        } else {
            failed++;
            System.out.println("promise " + promise + ": " + what + " answered " + got + ", due is " + want);
        }
    }

    private static void due(int promise, String what, boolean got, boolean want) {
        due(promise, what, got ? 1 : 0, want ? 1 : 0);
    }

    public static void main(String[] args) {
        newObject();
        addAnswers();
        addTestsInOrder();
        addIgnoresNumbersAKindDoesNotHave();
        retract();
        soundPrograms();
        unsoundPrograms();
        soundFollowsEachChange();
        put();
        runRefusesUnsound();
        runKeepsVariablesAndEmptiesOutput();
        setStatement();
        arithmeticStatements();
        upAndDownStatements();
        lowStatement();
        statementsMayReadWhatTheyWrite();
        choices();
        choiceLooksAtItsSignOnce();
        nestedChoices();
        loops();
        nestedLoopsAndChoices();
        longestRun();
        variable();
        trit();
        printedAndOutput();
        outputKeepsFortyEight();
        clear();
        refusedCallsChangeNothing();
        objectsAreApart();
        System.out.println("PromiseTests: " + passed + " passed, " + failed + " failed");
        if (failed != 0) {
            System.exit(1);
        }
    }

    /** Adds the statements of a text such as "LOOP 3; PRINT 0; END". */
    private static void feed(TernaryCompiler x, String text) {
        for (String statement : text.split(";")) {
            String[] words = statement.trim().split(" +");
            int[] n = new int[3];
            for (int i = 1; i < words.length; i++) {
                n[i - 1] = Integer.parseInt(words[i]);
            }
            if (!words[0].isEmpty() && x.add(kindOf(words[0]), n[0], n[1], n[2]) < 0) {
                throw new IllegalArgumentException(text);
            }
        }
    }

    private static int kindOf(String name) {
        String[] names = {"SET", "ADD", "SUB", "MUL", "UP", "DOWN", "LOW", "CASE", "ZERO", "POS", "LOOP", "END", "PRINT"};
        return java.util.Arrays.asList(names).indexOf(name);
    }

    private static TernaryCompiler with(String text) {
        TernaryCompiler x = new TernaryCompiler();
        feed(x, text);
        return x;
    }

    private static void dueNew(int promise, TernaryCompiler x) {
        due(promise, "new printed", x.printed(), 0);
        due(promise, "new output(0)", x.output(0), BAD);
        for (int v = 0; v < 6; v++) {
            due(promise, "new variable " + v, x.variable(v), 0);
            for (int i = 0; i < 9; i++) {
                due(promise, "new trit " + v + " " + i, x.trit(v, i), 0);
            }
        }
        due(promise, "new sound", x.sound(), true);
        due(promise, "new run", x.run(), 0);
        due(promise, "new retract", x.retract(), BAD);
        due(promise, "first add", x.add(12, 0, 0, 0), 1);
    }

    private static void newObject() {
        dueNew(1, new TernaryCompiler());
    }

    private static void addAnswers() {
        TernaryCompiler x = new TernaryCompiler();
        for (int kind = 0; kind <= 12; kind++) {
            due(2, "add of kind " + kind, x.add(kind, 5, 5, 5), kind + 1);
        }
        for (int n = 14; n <= 40; n++) {
            due(2, "add number " + n, x.add(12, 0, 0, 0), n);
        }
        due(2, "add number 41", x.add(12, 0, 0, 0), FULL);
        due(2, "add number 41 again", x.add(11, 0, 0, 0), FULL);
        due(2, "retract of 40", x.retract(), 39);
        due(2, "add after it", x.add(12, 0, 0, 0), 40);
    }

    private static void addTestsInOrder() {
        TernaryCompiler x = new TernaryCompiler();
        int[] noKinds = {-1, 13, 14, Integer.MIN_VALUE, Integer.MAX_VALUE};
        for (int kind : noKinds) {
            due(2, "add of kind " + kind, x.add(kind, 0, 0, 0), BAD);
        }
        for (int kind = 0; kind <= 12; kind++) {
            for (int outside : OUTSIDE_VARIABLES) {
                boolean hasA = kind != 8 && kind != 9 && kind != 11;
                boolean hasB = kind >= 1 && kind <= 6;
                boolean hasC = kind == 1 || kind == 2 || kind == 3 || kind == 6;
                String numbers = " of kind " + kind + " with " + outside;
                due(2, "a" + numbers, addAndRetract(x, kind, outside, 0, 0), hasA ? BAD : 1);
                due(2, "b" + numbers, addAndRetract(x, kind, 0, outside, 0), hasB ? BAD : 1);
                due(2, "c" + numbers, addAndRetract(x, kind, 0, 0, outside), hasC ? BAD : 1);
            }
            for (int v = 0; v < 6; v++) {
                due(2, "all of kind " + kind + " with " + v, addAndRetract(x, kind, v, v, v), 1);
            }
        }
        for (int n = 0; n < 40; n++) {
            x.add(12, 0, 0, 0);
        }
        due(2, "full before a wrong kind", x.add(-1, 0, 0, 0), FULL);
        due(2, "full before a wrong kind above", x.add(13, 0, 0, 0), FULL);
        due(2, "full before a wrong a", x.add(0, 6, 0, 0), FULL);
        due(2, "full before a wrong b", x.add(1, 0, 6, 0), FULL);
        due(2, "full before a wrong c", x.add(1, 0, 0, 6), FULL);
    }

    private static int addAndRetract(TernaryCompiler x, int kind, int a, int b, int c) {
        int answer = x.add(kind, a, b, c);
        if (answer > 0) {
            x.retract();
        }
        return answer;
    }

    private static void addIgnoresNumbersAKindDoesNotHave() {
        TernaryCompiler x = new TernaryCompiler();
        x.put(0, 5);
        due(2, "CASE", x.add(7, 0, -7, 99), 1);
        due(2, "ZERO", x.add(8, -7, 99, -7), 2);
        due(2, "POS", x.add(9, 99, -7, 99), 3);
        due(2, "LOOP", x.add(10, 2, 99, -7), 4);
        due(2, "SET", x.add(0, 1, 9, 99), 5);
        due(2, "UP", x.add(4, 2, 1, -7), 6);
        due(2, "DOWN", x.add(5, 3, 1, 99), 7);
        due(2, "PRINT", x.add(12, 2, 99, -7), 8);
        due(2, "END", x.add(11, -7, 99, -7), 9);
        due(2, "END", x.add(11, 99, -7, 99), 10);
        due(2, "run", x.run(), 2);
        due(2, "output 0", x.output(0), 27);
        due(2, "output 1", x.output(1), 27);
        due(2, "variable 3", x.variable(3), 3);
    }

    private static void retract() {
        TernaryCompiler x = new TernaryCompiler();
        due(3, "retract of none", x.retract(), BAD);
        due(3, "retract of none again", x.retract(), BAD);
        due(3, "add after it", x.add(0, 0, 1, 0), 1);
        due(3, "add", x.add(0, 0, 2, 0), 2);
        due(3, "add", x.add(0, 0, 3, 0), 3);
        due(3, "retract", x.retract(), 2);
        x.run();
        due(3, "the last one is gone", x.variable(0), 2);
        due(3, "retract", x.retract(), 1);
        x.run();
        due(3, "the one before is gone", x.variable(0), 1);
        due(3, "retract", x.retract(), 0);
        due(3, "variables stay", x.variable(0), 1);
        due(3, "retract of none left", x.retract(), BAD);
        feed(x, "PRINT 0");
        x.run();
        x.retract();
        due(3, "output stays", x.output(0), 1);
        due(3, "printed stays", x.printed(), 1);
    }

    private static void soundPrograms() {
        String[] texts = {
            "",
            "SET 0 1; ADD 0 0 0; SUB 0 0 0; MUL 0 0 0; UP 0 0; DOWN 0 0; LOW 0 0 0; PRINT 0",
            "CASE 0; END",
            "LOOP 0; END",
            "LOOP 5; PRINT 0; END",
            "CASE 0; ZERO; END",
            "CASE 0; POS; END",
            "CASE 0; ZERO; POS; END",
            "CASE 0; PRINT 0; ZERO; PRINT 0; POS; PRINT 0; END",
            "CASE 0; END; CASE 0; END; LOOP 1; END; LOOP 1; END; CASE 0; POS; END",
            "CASE 0; CASE 0; CASE 0; END; END; END",
            "LOOP 1; LOOP 1; LOOP 1; END; END; END",
            "LOOP 1; CASE 1; LOOP 1; END; ZERO; LOOP 1; END; POS; CASE 0; ZERO; POS; END; END; END",
            "LOOP 1; LOOP 1; LOOP 1; END; LOOP 1; END; END; LOOP 1; LOOP 1; END; END; END",
            "CASE 0; CASE 0; ZERO; POS; END; ZERO; CASE 0; ZERO; POS; END; POS; CASE 0; ZERO; POS; END; END",
            "CASE 0; ZERO; CASE 0; POS; END; POS; END",
            "CASE 0; LOOP 1; END; ZERO; END",
        };
        for (String text : texts) {
            TernaryCompiler x = with(text);
            due(4, "sound of " + text, x.sound(), true);
            due(4, "sound again of " + text, x.sound(), true);
            due(6, "run of " + text, x.run() >= 0, true);
        }
    }

    private static void unsoundPrograms() {
        String[] texts = {
            "END",
            "ZERO",
            "POS",
            "CASE 0",
            "LOOP 0",
            "PRINT 0; END",
            "END; CASE 0",
            "END; LOOP 1; END",
            "CASE 0; END; END",
            "LOOP 1; END; END; LOOP 1",
            "CASE 0; CASE 0; END",
            "LOOP 1; CASE 0; END",
            "CASE 0; LOOP 1; END",
            "ZERO; CASE 0; END",
            "POS; CASE 0; END",
            "CASE 0; END; ZERO",
            "CASE 0; END; POS",
            "LOOP 1; ZERO; END",
            "LOOP 1; POS; END",
            "CASE 0; LOOP 1; ZERO; END; END",
            "CASE 0; LOOP 1; POS; END; END",
            "LOOP 1; CASE 0; END; ZERO; END",
            "LOOP 1; CASE 0; END; POS; END",
            "CASE 0; ZERO; ZERO; END",
            "CASE 0; POS; POS; END",
            "CASE 0; ZERO; POS; POS; END",
            "CASE 0; ZERO; ZERO; POS; END",
            "CASE 0; POS; ZERO; END",
            "CASE 0; ZERO; POS; ZERO; END",
            "CASE 0; ZERO; CASE 0; ZERO; END; ZERO; END",
            "CASE 0; POS; CASE 0; ZERO; POS; END; POS; END",
            "CASE 0; POS; LOOP 1; END; ZERO; END",
            "CASE 0; CASE 0; CASE 0; CASE 0; END; END; END; END",
            "LOOP 1; LOOP 1; LOOP 1; LOOP 1; END; END; END; END",
            "LOOP 0; LOOP 0; LOOP 0; LOOP 0; END; END; END; END",
            "LOOP 1; CASE 1; LOOP 1; CASE 1; END; END; END; END",
            "CASE 0; POS; LOOP 1; CASE 1; END; LOOP 1; LOOP 1; END; END; END; END",
            "LOOP 1; LOOP 1; LOOP 1; END; LOOP 1; LOOP 1; END; END; END; END",
        };
        for (String text : texts) {
            TernaryCompiler x = with(text);
            due(4, "sound of " + text, x.sound(), false);
            due(4, "sound again of " + text, x.sound(), false);
            due(6, "run of " + text, x.run(), UNSOUND);
        }
    }

    private static void soundFollowsEachChange() {
        TernaryCompiler x = new TernaryCompiler();
        int[] kinds = {7, 8, 9, 11, 9};
        boolean[] want = {false, false, false, true, false};
        for (int i = 0; i < kinds.length; i++) {
            x.add(kinds[i], 0, 0, 0);
            due(4, "sound after add " + i, x.sound(), want[i]);
        }
        for (int i = kinds.length - 2; i >= 0; i--) {
            x.retract();
            due(4, "sound after retract to " + i, x.sound(), want[i]);
        }
        x.retract();
        due(4, "sound of none", x.sound(), true);
        TernaryCompiler full = new TernaryCompiler();
        for (int i = 0; i < 20; i++) {
            feed(full, i % 2 == 0 ? "CASE 0; END" : "LOOP 1; END");
        }
        due(4, "sound of twenty pairs", full.sound(), true);
        full.retract();
        due(4, "sound with the last one open", full.sound(), false);
        full.add(7, 0, 0, 0);
        due(4, "sound with two open at the 40th", full.sound(), false);
    }

    private static void put() {
        TernaryCompiler x = new TernaryCompiler();
        int[][] pairs = {
            {0, 0}, {1, 1}, {-1, -1}, {9841, 9841}, {-9841, -9841}, {9842, -9841}, {-9842, 9841}, {9843, -9840}, {-9843, 9840},
            {19682, -1}, {-19682, 1}, {19683, 0}, {-19683, 0}, {19684, 1}, {-19684, -1}, {29524, 9841}, {29525, -9841},
            {-29524, -9841}, {-29525, 9841}, {123456789, 5013}, {-123456789, -5013},
            {Integer.MAX_VALUE, 9298}, {Integer.MIN_VALUE, -9299}, {Integer.MAX_VALUE - 1, 9297}, {Integer.MIN_VALUE + 1, -9298},
        };
        for (int v = 0; v < 6; v++) {
            for (int[] pair : pairs) {
                due(5, "put of " + pair[0], x.put(v, pair[0]), true);
                due(5, "variable after put of " + pair[0], x.variable(v), pair[1]);
            }
            x.put(v, 100 + v);
        }
        for (int outside : OUTSIDE_VARIABLES) {
            due(5, "put in " + outside, x.put(outside, 7), false);
        }
        for (int v = 0; v < 6; v++) {
            due(5, "variable " + v + " has its own", x.variable(v), 100 + v);
        }
    }

    private static void runRefusesUnsound() {
        TernaryCompiler x = with("PRINT 0; SET 0 9; PRINT 0");
        x.put(0, 3);
        due(6, "run", x.run(), 2);
        feed(x, "LOOP 2; SET 0 77; PRINT 0");
        due(6, "unsound run", x.run(), UNSOUND);
        due(6, "variable stays", x.variable(0), 9);
        due(6, "printed stays", x.printed(), 2);
        due(6, "output 0 stays", x.output(0), 3);
        due(6, "output 1 stays", x.output(1), 9);
        due(6, "unsound run again", x.run(), UNSOUND);
        due(6, "add goes on", x.add(11, 0, 0, 0), 7);
        due(6, "mended run", x.run(), 4);
        due(6, "output 0", x.output(0), 9);
        due(6, "output 1", x.output(1), 9);
        due(6, "output 2", x.output(2), 77);
        due(6, "output 3", x.output(3), 77);
    }

    private static void runKeepsVariablesAndEmptiesOutput() {
        TernaryCompiler x = with("ADD 0 0 1; PRINT 0");
        x.put(1, 5);
        for (int i = 1; i <= 4; i++) {
            due(6, "run " + i, x.run(), 1);
            due(6, "printed after run " + i, x.printed(), 1);
            due(6, "output after run " + i, x.output(0), 5 * i);
            due(6, "output 1 after run " + i, x.output(1), BAD);
        }
        x.retract();
        due(6, "run without print", x.run(), 0);
        due(6, "printed without print", x.printed(), 0);
        due(6, "output without print", x.output(0), BAD);
        due(6, "variable", x.variable(0), 25);
        x.retract();
        due(6, "run of nothing", x.run(), 0);
        due(6, "variable stays", x.variable(0), 25);
    }

    private static void setStatement() {
        int[][] pairs = {{0, 0}, {9841, 9841}, {9842, -9841}, {-9842, 9841}, {Integer.MAX_VALUE, 9298}, {Integer.MIN_VALUE, -9299}};
        for (int[] pair : pairs) {
            TernaryCompiler x = with("SET 5 " + pair[0]);
            x.put(5, 44);
            x.run();
            due(6, "SET " + pair[0], x.variable(5), pair[1]);
            due(6, "SET leaves others", x.variable(0), 0);
        }
    }

    private static int binary(String kind, int left, int right) {
        TernaryCompiler x = with(kind + " 2 3 4");
        x.put(2, 4321);
        x.put(3, left);
        x.put(4, right);
        x.run();
        due(6, kind + " leaves its left", x.variable(3), left);
        due(6, kind + " leaves its right", x.variable(4), right);
        return x.variable(2);
    }

    private static void arithmeticStatements() {
        due(6, "2 + 3", binary("ADD", 2, 3), 5);
        due(6, "9841 + 1", binary("ADD", 9841, 1), -9841);
        due(6, "9841 + 9841", binary("ADD", 9841, 9841), -1);
        due(6, "-9841 + -1", binary("ADD", -9841, -1), 9841);
        due(6, "-9841 + -9841", binary("ADD", -9841, -9841), 1);
        due(6, "9841 + -9841", binary("ADD", 9841, -9841), 0);
        due(6, "2 - 3", binary("SUB", 2, 3), -1);
        due(6, "3 - 2", binary("SUB", 3, 2), 1);
        due(6, "-9841 - 1", binary("SUB", -9841, 1), 9841);
        due(6, "9841 - -9841", binary("SUB", 9841, -9841), -1);
        due(6, "-9841 - 9841", binary("SUB", -9841, 9841), 1);
        due(6, "2 * 3", binary("MUL", 2, 3), 6);
        due(6, "-2 * 3", binary("MUL", -2, 3), -6);
        due(6, "9841 * 9841", binary("MUL", 9841, 9841), 4921);
        due(6, "9841 * -9841", binary("MUL", 9841, -9841), -4921);
        due(6, "-9841 * -9841", binary("MUL", -9841, -9841), 4921);
        due(6, "9841 * 2", binary("MUL", 9841, 2), -1);
        due(6, "9841 * 0", binary("MUL", 9841, 0), 0);
        due(6, "141 * 141", binary("MUL", 141, 141), 198);
    }

    private static int unary(String kind, int value) {
        TernaryCompiler x = with(kind + " 1 4");
        x.put(1, 4321);
        x.put(4, value);
        x.run();
        due(6, kind + " leaves what it reads", x.variable(4), value);
        return x.variable(1);
    }

    private static void upAndDownStatements() {
        int[][] ups = {{0, 0}, {1, 3}, {-1, -3}, {3280, 9840}, {3281, -9840}, {-3280, -9840}, {-3281, 9840}, {9841, 9840}, {-9841, -9840}};
        for (int[] pair : ups) {
            due(6, "UP of " + pair[0], unary("UP", pair[0]), pair[1]);
        }
        int[][] downs = {
            {0, 0}, {1, 0}, {-1, 0}, {2, 1}, {-2, -1}, {3, 1}, {-3, -1}, {4, 1}, {-4, -1}, {5, 2}, {-5, -2}, {6, 2}, {7, 2}, {8, 3},
            {9841, 3280}, {-9841, -3280}, {9840, 3280}, {9839, 3280}, {9838, 3279}, {-9838, -3279},
        };
        for (int[] pair : downs) {
            due(6, "DOWN of " + pair[0], unary("DOWN", pair[0]), pair[1]);
        }
    }

    private static void lowStatement() {
        due(6, "LOW of 0 and 0", binary("LOW", 0, 0), 0);
        due(6, "LOW of 1 and 0", binary("LOW", 1, 0), 0);
        due(6, "LOW of 0 and 1", binary("LOW", 0, 1), 0);
        due(6, "LOW of -1 and 0", binary("LOW", -1, 0), -1);
        due(6, "LOW of 0 and -1", binary("LOW", 0, -1), -1);
        due(6, "LOW of 1 and -1", binary("LOW", 1, -1), -1);
        due(6, "LOW of 1 and 1", binary("LOW", 1, 1), 1);
        due(6, "LOW of -1 and -1", binary("LOW", -1, -1), -1);
        // 2 is 3 - 1 and -2 is -3 + 1, so the smaller trits are -3 - 1.
        due(6, "LOW of 2 and -2", binary("LOW", 2, -2), -4);
        // 3 has no t0, so the smaller trits of 3 and 1 are both 0.
        due(6, "LOW of 3 and 1", binary("LOW", 3, 1), 0);
        // 5 is 9 - 3 - 1 and 7 is 9 - 3 + 1.
        due(6, "LOW of 5 and 7", binary("LOW", 5, 7), 5);
        due(6, "LOW of 9841 and 9841", binary("LOW", 9841, 9841), 9841);
        due(6, "LOW of 9841 and -9841", binary("LOW", 9841, -9841), -9841);
        due(6, "LOW of 9841 and 1234", binary("LOW", 9841, 1234), 1234);
        due(6, "LOW of 6561 and 9841", binary("LOW", 6561, 9841), 6561);
        due(6, "LOW of 6561 and -6561", binary("LOW", 6561, -6561), -6561);
        due(6, "LOW of 364 and -365", binary("LOW", 364, -365), -365);
    }

    private static void statementsMayReadWhatTheyWrite() {
        String[] texts = {"ADD 0 0 1", "ADD 0 1 0", "SUB 0 0 1", "SUB 0 1 0", "MUL 0 0 1", "MUL 0 1 0", "LOW 0 0 1", "LOW 0 1 0",
            "ADD 0 0 0", "SUB 0 0 0", "MUL 0 0 0", "LOW 0 0 0", "UP 0 0", "DOWN 0 0"};
        int[] wants = {13, 13, -3, 3, 40, 40, 5, 5, 10, 0, 25, 5, 15, 2};
        for (int i = 0; i < texts.length; i++) {
            TernaryCompiler x = with(texts[i]);
            x.put(0, 5);
            x.put(1, 8);
            x.run();
            due(6, texts[i] + " of 5 and 8", x.variable(0), wants[i]);
            due(6, texts[i] + " leaves variable 1", x.variable(1), 8);
        }
    }

    private static void dueOutput(String what, TernaryCompiler x, int... wants) {
        due(6, what + ", number", x.run(), wants.length);
        due(9, what + ", printed", x.printed(), wants.length);
        for (int k = 0; k < wants.length; k++) {
            due(10, what + ", value " + k, x.output(k), wants[k]);
        }
    }

    private static void dueChoice(String text, int[] negative, int[] zero, int[] positive) {
        int[] values = {-9841, -1, 0, 1, 9841};
        for (int value : values) {
            TernaryCompiler x = with("SET 1 1; SET 2 2; SET 3 3; SET 4 4;" + text);
            x.put(5, value);
            dueOutput(text + " for " + value, x, value < 0 ? negative : value == 0 ? zero : positive);
        }
    }

    private static int[] of(int... values) {
        return values;
    }

    private static void choices() {
        dueChoice("CASE 5; END; PRINT 4", of(4), of(4), of(4));
        dueChoice("CASE 5; PRINT 1; END; PRINT 4", of(1, 4), of(4), of(4));
        dueChoice("CASE 5; ZERO; PRINT 2; END; PRINT 4", of(4), of(2, 4), of(4));
        dueChoice("CASE 5; POS; PRINT 3; END; PRINT 4", of(4), of(4), of(3, 4));
        dueChoice("CASE 5; PRINT 1; ZERO; PRINT 2; END; PRINT 4", of(1, 4), of(2, 4), of(4));
        dueChoice("CASE 5; PRINT 1; POS; PRINT 3; END; PRINT 4", of(1, 4), of(4), of(3, 4));
        dueChoice("CASE 5; ZERO; PRINT 2; POS; PRINT 3; END; PRINT 4", of(4), of(2, 4), of(3, 4));
        dueChoice("CASE 5; PRINT 1; ZERO; PRINT 2; POS; PRINT 3; END; PRINT 4", of(1, 4), of(2, 4), of(3, 4));
        dueChoice("CASE 5; PRINT 1; PRINT 1; ZERO; POS; PRINT 3; PRINT 3; END", of(1, 1), of(), of(3, 3));
        dueChoice("CASE 5; PRINT 1; ZERO; PRINT 2; POS; PRINT 3; END", of(1), of(2), of(3));
    }

    private static void choiceLooksAtItsSignOnce() {
        dueChoice("CASE 5; SET 5 0; PRINT 1; ZERO; SET 5 1; PRINT 2; POS; SET 5 -1; PRINT 3; END; PRINT 5", of(1, 0), of(2, 1), of(3, -1));
        // The sign is the one at CASE, not the one before the run.
        dueChoice("SET 5 0; CASE 5; PRINT 1; ZERO; PRINT 2; POS; PRINT 3; END", of(2), of(2), of(2));
        dueChoice("SUB 5 0 5; CASE 5; PRINT 1; ZERO; PRINT 2; POS; PRINT 3; END", of(3), of(2), of(1));
    }

    private static void nestedChoices() {
        String inner = "CASE 5; PRINT 1; ZERO; PRINT 2; POS; PRINT 3; END;";
        dueChoice("CASE 5; " + inner + " ZERO; " + inner + " POS; " + inner + " END; PRINT 4", of(1, 4), of(2, 4), of(3, 4));
        dueChoice("CASE 5; " + inner + " PRINT 4; POS; PRINT 4; " + inner + " END", of(1, 4), of(), of(4, 3));
        dueChoice("CASE 5; CASE 0; ZERO; PRINT 1; CASE 1; POS; PRINT 2; END; POS; PRINT 3; END; POS; PRINT 4; END", of(1, 2), of(), of(4));
        dueChoice("CASE 0; CASE 5; ZERO; POS; END; ZERO; CASE 5; POS; PRINT 3; END; PRINT 4; POS; PRINT 1; END", of(4), of(4), of(3, 4));
    }

    private static void loops() {
        for (int passes = 0; passes <= 5; passes++) {
            TernaryCompiler x = with("LOOP " + passes + "; PRINT 0; ADD 0 0 1; END; PRINT 1");
            x.put(1, 7);
            due(6, "LOOP " + passes, x.run(), passes + 1);
            due(6, "LOOP " + passes + " variable", x.variable(0), 7 * passes);
            for (int k = 0; k < passes; k++) {
                due(6, "LOOP " + passes + " output " + k, x.output(k), 7 * k);
            }
            due(6, "LOOP " + passes + " last output", x.output(passes), 7);
        }
        TernaryCompiler two = with("LOOP 2; PRINT 0; END; LOOP 3; PRINT 1; END");
        two.put(1, 1);
        dueOutput("two loops", two, 0, 0, 1, 1, 1);
        // The a of LOOP is the number of passes itself, not a variable that holds it.
        TernaryCompiler number = with("LOOP 2; SET 2 5; PRINT 2; END");
        number.put(2, 4);
        dueOutput("passes by the number", number, 5, 5);
        dueOutput("the same loop again", number, 5, 5);
        dueOutput("empty loop", with("LOOP 5; END; PRINT 0"), 0);
    }

    private static void nestedLoopsAndChoices() {
        for (int i = 0; i <= 5; i++) {
            for (int j = 0; j <= 5; j++) {
                TernaryCompiler x = with("SET 1 1; LOOP " + i + "; ADD 2 2 1; LOOP " + j + "; ADD 3 3 1; LOOP 2; ADD 4 4 1; END; END; ADD 5 5 1; END");
                due(6, "nested loops", x.run(), 0);
                due(6, "outer passes", x.variable(2), i);
                due(6, "middle passes", x.variable(3), i * j);
                due(6, "inner passes", x.variable(4), 2 * i * j);
                due(6, "outer passes after the inner ones", x.variable(5), i);
            }
        }
        TernaryCompiler falling = with("SET 0 -2; SET 1 1; LOOP 5; CASE 0; SET 2 -7; ZERO; SET 2 0; POS; SET 2 7; END; PRINT 2; ADD 0 0 1; END");
        dueOutput("a choice in a loop", falling, -7, -7, 0, 7, 7);
        String text = "SET 1 1; CASE 0; LOOP 2; PRINT 0; END; ZERO; LOOP 3; PRINT 0; END; POS; LOOP 0; PRINT 0; END; PRINT 1; END";
        TernaryCompiler x = with(text);
        x.put(0, -5);
        dueOutput("loops in the negative section", x, -5, -5);
        x.put(0, 0);
        dueOutput("loops in the zero section", x, 0, 0, 0);
        x.put(0, 5);
        dueOutput("loops in the positive section", x, 1);
        // A loop of no passes goes by what it holds, choices and loops too.
        dueOutput("a loop of none", with("LOOP 0; CASE 0; ZERO; PRINT 0; END; LOOP 2; PRINT 0; END; END; PRINT 1"), 0);
    }

    private static void longestRun() {
        TernaryCompiler x = with("LOOP 5; LOOP 5; LOOP 5");
        for (int i = 0; i < 34; i++) {
            feed(x, "PRINT 0");
        }
        feed(x, "END; END; END");
        due(6, "the longest run", x.run(), 34 * 125);
        due(9, "the longest run, printed", x.printed(), 34 * 125);
        TernaryCompiler ends = with("SET 1 1; LOOP 5; LOOP 5");
        for (int i = 0; i < 11; i++) {
            feed(ends, "LOOP 5; ADD 0 0 1; END");
        }
        feed(ends, "END; END; PRINT 0");
        dueOutput("many inner loops", ends, 11 * 125);
    }

    private static void variable() {
        TernaryCompiler x = new TernaryCompiler();
        for (int v = 0; v < 6; v++) {
            x.put(v, 11 * v - 30);
        }
        for (int v = 0; v < 6; v++) {
            due(7, "variable " + v, x.variable(v), 11 * v - 30);
        }
        for (int outside : OUTSIDE_VARIABLES) {
            due(7, "variable " + outside, x.variable(outside), BAD);
        }
    }

    private static void trit() {
        TernaryCompiler x = new TernaryCompiler();
        int[] powers = {1, 3, 9, 27, 81, 243, 729, 2187, 6561};
        for (int i = 0; i < 9; i++) {
            for (int sign = -1; sign <= 1; sign++) {
                x.put(2, sign * powers[i]);
                for (int j = 0; j < 9; j++) {
                    due(8, "trit " + j + " of " + sign * powers[i], x.trit(2, j), i == j ? sign : 0);
                }
            }
        }
        int[] values = {2, -2, 5, -5, 9841, -9841, 9840, 4921, -4921, 3281, -3281, 1234, -777, 9838};
        for (int value : values) {
            TernaryCompiler y = new TernaryCompiler();
            y.put(5, value);
            int sum = 0;
            for (int i = 0; i < 9; i++) {
                int trit = y.trit(5, i);
                due(8, "trit within -1..1 of " + value, trit >= -1 && trit <= 1, true);
                sum += powers[i] * trit;
            }
            due(8, "the trits' sum", sum, value);
        }
        int[] outsidePlaces = {-1, 9, 10, Integer.MIN_VALUE, Integer.MAX_VALUE};
        for (int outside : outsidePlaces) {
            for (int v = 0; v < 6; v++) {
                due(8, "trit " + outside + " of " + v, x.trit(v, outside), BAD);
            }
            due(8, "trit " + outside + " of no variable", x.trit(6, outside), BAD);
        }
        for (int outside : OUTSIDE_VARIABLES) {
            for (int i = 0; i < 9; i++) {
                due(8, "trit " + i + " of " + outside, x.trit(outside, i), BAD);
            }
        }
    }

    private static void printedAndOutput() {
        TernaryCompiler x = with("PRINT 3; PRINT 4; PRINT 3");
        due(9, "printed before a run", x.printed(), 0);
        due(10, "output before a run", x.output(0), BAD);
        x.put(3, -9841);
        x.put(4, 9841);
        due(9, "run", x.run(), 3);
        due(9, "printed", x.printed(), 3);
        due(10, "output 0", x.output(0), -9841);
        due(10, "output 1", x.output(1), 9841);
        due(10, "output 2", x.output(2), -9841);
        x.put(3, 5);
        due(10, "output keeps what was printed", x.output(0), -9841);
        int[] outside = {-1, 3, 4, 47, 48, 49, Integer.MIN_VALUE, Integer.MAX_VALUE};
        for (int k : outside) {
            due(10, "output " + k, x.output(k), BAD);
        }
        due(9, "printed after it", x.printed(), 3);
    }

    private static void outputKeepsFortyEight() {
        TernaryCompiler x = with("SET 1 1; LOOP 5; LOOP 5; ADD 0 0 1; PRINT 0; PRINT 0; END; END");
        due(9, "run of 50", x.run(), 50);
        due(9, "printed of 50", x.printed(), 50);
        for (int k = 0; k < 48; k++) {
            due(10, "output " + k + " of 50", x.output(k), k / 2 + 1);
        }
        int[] outside = {-1, 48, 49, 50, 51};
        for (int k : outside) {
            due(10, "output " + k + " of 50", x.output(k), BAD);
        }
        for (int extra = -1; extra <= 1; extra++) {
            TernaryCompiler y = with("SET 0 6; LOOP 4; LOOP 4; LOOP 3; PRINT 0; END; END; END");
            if (extra < 0) {
                y = with("SET 0 6; LOOP 5; LOOP 3; LOOP 3; PRINT 0; END; END; END; PRINT 0; PRINT 0");
            }
            if (extra > 0) {
                feed(y, "PRINT 0");
            }
            due(9, "run of " + (48 + extra), y.run(), 48 + extra);
            due(9, "printed of " + (48 + extra), y.printed(), 48 + extra);
            due(10, "output 46", y.output(46), 6);
            due(10, "output 47", y.output(47), extra < 0 ? BAD : 6);
            due(10, "output 48", y.output(48), BAD);
        }
    }

    private static void clear() {
        TernaryCompiler x = with("PRINT 0; LOOP 2; PRINT 1; END");
        for (int v = 0; v < 6; v++) {
            x.put(v, 7);
        }
        x.run();
        x.clear();
        dueNew(11, x);
        TernaryCompiler unsound = with("CASE 0; ZERO; END; LOOP 1");
        unsound.put(5, -1);
        due(11, "unsound before", unsound.sound(), false);
        unsound.clear();
        dueNew(11, unsound);
        TernaryCompiler full = new TernaryCompiler();
        for (int n = 0; n < 40; n++) {
            full.add(0, 1, 1, 0);
        }
        full.clear();
        for (int n = 1; n <= 40; n++) {
            due(11, "add number " + n + " after clear", full.add(12, 2, 0, 0), n);
        }
        due(11, "add number 41 after clear", full.add(12, 2, 0, 0), FULL);
        due(11, "run after clear", full.run(), 40);
        due(11, "variable after clear", full.variable(1), 0);
        TernaryCompiler empty = new TernaryCompiler();
        empty.clear();
        dueNew(11, empty);
    }

    private static void refusedCallsChangeNothing() {
        TernaryCompiler x = with("PRINT 0; PRINT 1");
        x.put(0, 10);
        x.put(1, -10);
        x.run();
        for (int outside : OUTSIDE_VARIABLES) {
            x.add(outside < 0 || outside > 12 ? outside : 13, 0, 0, 0);
            x.add(0, outside, 5, 0);
            x.add(1, 0, outside, 0);
            x.add(1, 0, 0, outside);
            x.add(10, outside, 0, 0);
            x.add(12, outside, 0, 0);
            x.put(outside, 99);
            x.variable(outside);
            x.trit(outside, 0);
            x.output(outside);
        }
        due(12, "variable 0", x.variable(0), 10);
        due(12, "variable 1", x.variable(1), -10);
        for (int v = 2; v < 6; v++) {
            due(12, "variable " + v, x.variable(v), 0);
        }
        due(12, "printed", x.printed(), 2);
        due(12, "output 0", x.output(0), 10);
        due(12, "output 1", x.output(1), -10);
        due(12, "sound", x.sound(), true);
        due(12, "the next number", x.add(12, 1, 0, 0), 3);
        dueOutput("the program", x, 10, -10, -10);

        TernaryCompiler full = new TernaryCompiler();
        for (int n = 0; n < 40; n++) {
            full.add(12, 3, 0, 0);
        }
        full.add(11, 0, 0, 0);
        full.add(0, 3, 8, 0);
        due(12, "a full program stays sound", full.sound(), true);
        due(12, "a full program's run", full.run(), 40);
        due(12, "a full program's last value", full.output(39), 0);
        due(12, "a full program's retract", full.retract(), 39);

        TernaryCompiler none = new TernaryCompiler();
        none.retract();
        none.retract();
        due(12, "add after refused retracts", none.add(12, 0, 0, 0), 1);
        due(12, "run after refused retracts", none.run(), 1);
    }

    private static void objectsAreApart() {
        TernaryCompiler one = with("PRINT 0");
        TernaryCompiler other = new TernaryCompiler();
        one.put(0, 4);
        one.run();
        due(1, "the other's variable", other.variable(0), 0);
        due(1, "the other's printed", other.printed(), 0);
        due(1, "the other's retract", other.retract(), BAD);
        other.clear();
        due(1, "the one's variable", one.variable(0), 4);
        due(1, "the one's output", one.output(0), 4);
    }
}
