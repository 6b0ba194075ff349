import java.io.IOException;

/** A test of its own for each sentence of the document's "Terms" that names a boundary case. */
public final class TermsBoundaries {
    private static final int BAD = Subject.BAD;
    private static final int FULL = Subject.FULL;
    private static final int LEAST = Subject.LEAST;
    private static final int GREATEST = Subject.GREATEST;
    private static final int[] WEIGHTS = {1, 3, 9, 27, 81, 243, 729, 2187, 6561};
    private static final int[] EDGE_VALUES =
        {-9841, -9840, -6561, -4921, -3281, -3280, -3, -2, -1, 0, 1, 2, 3, 3280, 3281, 4921, 6561, 9840, 9841};

    /** Numbers and their WRAP: both sides of each place where it turns over, and both ends of int. */
    private static final int[][] WRAPS = {
        {0, 0}, {1, 1}, {-1, -1},
        {9840, 9840}, {9841, 9841}, {9842, -9841}, {9843, -9840},
        {-9840, -9840}, {-9841, -9841}, {-9842, 9841}, {-9843, 9840},
        {19682, -1}, {19683, 0}, {19684, 1}, {-19682, 1}, {-19683, 0}, {-19684, -1},
        {29524, 9841}, {29525, -9841}, {-29524, -9841}, {-29525, 9841},
        {39365, -1}, {39366, 0}, {39367, 1}, {-39365, 1}, {-39366, 0}, {-39367, -1},
        {GREATEST, 9298}, {GREATEST - 1, 9297}, {LEAST, -9299}, {LEAST + 1, -9298},
    };

    private TermsBoundaries() {
    }

    public static void main(String[] args) throws IOException {
        Sentences.under("Terms");
        Sentences.boundary("A VALUE is a whole number from -9841 to 9841.", TermsBoundaries::valuesEndAt9841);
        Sentences.boundary("WRAP(v) is the value that differs from v by a multiple of 19683 (there is just one).",
            TermsBoundaries::wrapTurnsOver);
        Sentences.boundary("Every value is written in just one way as t0 + 3 * t1 + 9 * t2 + .. + 6561 * t8 with TRITS t0 to t8, "
            + "each -1, 0 or 1.", TermsBoundaries::everyValueIsItsTrits);
        Sentences.boundary("There are 6 variables, 0 to 5, that hold values.", TermsBoundaries::sixVariables);
        Sentences.boundary("A program is a list of up to 40 statements, numbered from 0, fed one a call; "
            + "each has a kind and up to three numbers a, b, c:", TermsBoundaries::fortyStatements);
        statements();
        Sentences.boundary("A choice passes the section for the sign of variable a (as it is when CASE is come to);",
            TermsBoundaries::choiceGoesBySign);
        Sentences.boundary("a section that was not begun is empty.", TermsBoundaries::sectionsNotBegun);
        soundness();
        Sentences.end("TermsBoundaries", "Terms");
    }

    private static void statements() {
        Sentences.boundary("SET a b variable a becomes WRAP(the number b)", TermsBoundaries::setWraps);
        Sentences.boundary("ADD a b c variable a becomes WRAP(variable b + variable c)", TermsBoundaries::addWraps);
        Sentences.boundary("SUB: b - c", TermsBoundaries::subWraps);
        Sentences.boundary("MUL: b times c (the exact product is wrapped)", TermsBoundaries::mulWraps);
        Sentences.boundary("UP a b variable a becomes WRAP(3 times variable b)", TermsBoundaries::upWraps);
        Sentences.boundary("DOWN a b variable a becomes variable b without its trit t0, divided by 3", TermsBoundaries::downDropsTheLowest);
        Sentences.boundary("LOW a b c each trit of variable a becomes the smaller one of the trits of variables b and c in the same place",
            TermsBoundaries::lowTakesTheSmaller);
        Sentences.boundary("CASE a begins a choice; the statements that follow are its negative section", TermsBoundaries::caseBegins);
        Sentences.boundary("ZERO begins the zero section of the choice that is the latest thing open", TermsBoundaries::zeroIsOfTheLatest);
        Sentences.boundary("POS begins the positive section of the choice that is the latest thing open", TermsBoundaries::posIsOfTheLatest);
        Sentences.boundary("LOOP a begins a loop: the statements up to its END are passed a times (a from 0 to 5)", TermsBoundaries::loopPasses);
        Sentences.boundary("END closes the latest open choice or loop", TermsBoundaries::endClosesTheLatest);
        Sentences.boundary("PRINT a adds the value of variable a to the end of the output", TermsBoundaries::printAddsAtTheEnd);
    }

    private static void soundness() {
        Sentences.boundary("A program is SOUND iff every END has something open to close,", TermsBoundaries::everyEndCloses);
        Sentences.boundary("everything that is open is closed at the end,", TermsBoundaries::everythingIsClosed);
        Sentences.boundary("at no place more than three choices and loops are open,", TermsBoundaries::atMostThreeOpen);
        Sentences.boundary("every ZERO and every POS has a choice, not a loop, as the latest thing open,", TermsBoundaries::sectionsAreOfChoices);
        Sentences.boundary("and in a choice there is at most one ZERO", TermsBoundaries::atMostOneZero);
        Sentences.boundary("and at most one POS,", TermsBoundaries::atMostOnePos);
        Sentences.boundary("and no ZERO after POS.", TermsBoundaries::noZeroAfterPos);
    }

    private static void valuesEndAt9841() {
        for (int first = -9841; first <= 9841; first += 200) {
            Subject x = new Subject();
            for (int value = first; value < first + 200 && value <= 9841; value++) {
                x.put(0, value);
                x.variable(0).is(value);
            }
        }
        Subject x = new Subject();
        x.put(0, 9842);
        x.variable(0).is(-9841);
        x.put(0, -9842);
        x.variable(0).is(9841);
        String[] makers = {"ADD 0 1 2", "SUB 0 1 2", "MUL 0 1 2", "LOW 0 1 2", "UP 0 1", "DOWN 0 1"};
        for (String maker : makers) {
            for (int left : EDGE_VALUES) {
                for (int right : EDGE_VALUES) {
                    Subject.Answer made = after(maker, left, right);
                    Sentences.due(maker + " of " + left + " and " + right + " is a value", Math.abs(made.got) <= 9841 ? 1 : 0, 1);
                }
            }
        }
    }

    private static void wrapTurnsOver() {
        for (int[] pair : WRAPS) {
            Subject x = new Subject();
            x.put(0, pair[0]);
            x.variable(0).is(pair[1]);
        }
        // From the lowest multiple that fits an int to the highest.
        for (int times = -109103; times <= 109103; times += 17) {
            Subject x = new Subject();
            int[] offsets = {-9841, -1, 0, 1, 9841};
            for (int offset : offsets) {
                long number = 19683L * times + offset;
                if (number == (int) number) {
                    x.put(0, (int) number);
                    x.variable(0).is(offset);
                }
            }
        }
    }

    private static void everyValueIsItsTrits() {
        for (int first = -9841; first <= 9841; first += 50) {
            Subject x = new Subject();
            for (int value = first; value < first + 50 && value <= 9841; value++) {
                x.put(5, value);
                int sum = 0;
                for (int i = 0; i < 9; i++) {
                    long trit = x.trit(5, i).got;
                    Sentences.due("trit " + i + " of " + value + " is -1, 0 or 1", Math.abs(trit) <= 1 ? 1 : 0, 1);
                    sum += trit * WEIGHTS[i];
                }
                Sentences.due("the sum of the weighed trits of " + value, sum, value);
            }
        }
        Subject x = new Subject();
        x.put(0, 9841);
        x.put(1, -9841);
        x.put(2, 6561);
        x.put(3, -6561);
        x.put(4, 3280);
        x.put(5, 3281);
        for (int i = 0; i < 9; i++) {
            x.trit(0, i).is(1);
            x.trit(1, i).is(-1);
            x.trit(2, i).is(i == 8 ? 1 : 0);
            x.trit(3, i).is(i == 8 ? -1 : 0);
            // 3280 is the greatest value of eight places; one more takes the ninth.
            x.trit(4, i).is(i == 8 ? 0 : 1);
            x.trit(5, i).is(i == 8 ? 1 : -1);
        }
    }

    private static void sixVariables() {
        Subject x = new Subject();
        for (int v = 0; v <= 5; v++) {
            x.put(v, 9841 - v).is(true);
        }
        x.put(-1, 1).is(false);
        x.put(6, 1).is(false);
        for (int v = 0; v <= 5; v++) {
            x.variable(v).is(9841 - v);
            x.trit(v, 8).is(1);
        }
        x.variable(-1).is(BAD);
        x.variable(6).is(BAD);
        x.trit(-1, 0).is(BAD);
        x.trit(6, 0).is(BAD);
        int[] outside = {-1, 6};
        for (int v : outside) {
            x.add(12, v, 0, 0).is(BAD);
            x.add(1, v, 0, 0).is(BAD);
            x.add(1, 0, v, 0).is(BAD);
            x.add(1, 0, 0, v).is(BAD);
        }
        x.add("PRINT 0").is(1);
        x.add("PRINT 5").is(2);
        x.add("SUB 0 5 0").is(3);
        x.add("SUB 5 0 5").is(4);
        x.prints(9841, 9836);
        x.variable(0).is(-5);
        x.variable(5).is(-9841);
    }

    private static void fortyStatements() {
        Subject none = new Subject();
        none.sound().is(true);
        none.prints();
        Subject full = new Subject();
        for (int n = 0; n < 20; n++) {
            full.add("SET 0 " + (100 + n)).is(2 * n + 1);
            full.add("PRINT 0").is(2 * n + 2);
        }
        full.add("SET 0 7").is(FULL);
        full.add("PRINT 0").is(FULL);
        full.sound().is(true);
        full.run().is(20);
        for (int n = 0; n < 20; n++) {
            full.output(n).is(100 + n);
        }
        full.variable(0).is(119);
        full.retract().is(39);
        full.run().is(19);
        full.add("PRINT 0").is(40);
        full.add("PRINT 0").is(FULL);
    }

    /** The value of variable 0 when the statement was passed once, with the numbers in variables 1 and 2. */
    private static Subject.Answer after(String statement, int... numbers) {
        Subject x = new Subject();
        for (int i = 0; i < numbers.length; i++) {
            x.put(i + 1, numbers[i]);
        }
        x.put(0, 4444);
        x.feed(statement).run().is(0);
        for (int i = 0; i < numbers.length; i++) {
            x.variable(i + 1).is(numbers[i]);
        }
        return x.variable(0);
    }

    private static void setWraps() {
        for (int[] pair : WRAPS) {
            after("SET 0 " + pair[0]).is(pair[1]);
            Subject last = new Subject().feed("SET 5 " + pair[0] + "; PRINT 5");
            last.prints(pair[1]);
        }
    }

    private static void addWraps() {
        after("ADD 0 1 2", 9840, 1).is(9841);
        after("ADD 0 1 2", 9841, 0).is(9841);
        after("ADD 0 1 2", 9841, 1).is(-9841);
        after("ADD 0 1 2", 1, 9841).is(-9841);
        after("ADD 0 1 2", 9841, 2).is(-9840);
        after("ADD 0 1 2", 9841, 9841).is(-1);
        after("ADD 0 1 2", -9840, -1).is(-9841);
        after("ADD 0 1 2", -9841, 0).is(-9841);
        after("ADD 0 1 2", -9841, -1).is(9841);
        after("ADD 0 1 2", -1, -9841).is(9841);
        after("ADD 0 1 2", -9841, -2).is(9840);
        after("ADD 0 1 2", -9841, -9841).is(1);
        after("ADD 0 1 2", 9841, -9841).is(0);
        forEdges("ADD 0 1 2", (left, right) -> left + right);
    }

    private static void subWraps() {
        after("SUB 0 1 2", 9840, -1).is(9841);
        after("SUB 0 1 2", 9841, 0).is(9841);
        after("SUB 0 1 2", 9841, -1).is(-9841);
        after("SUB 0 1 2", 9841, -2).is(-9840);
        after("SUB 0 1 2", 9841, -9841).is(-1);
        after("SUB 0 1 2", -9840, 1).is(-9841);
        after("SUB 0 1 2", -9841, 0).is(-9841);
        after("SUB 0 1 2", -9841, 1).is(9841);
        after("SUB 0 1 2", -9841, 2).is(9840);
        after("SUB 0 1 2", -9841, 9841).is(1);
        after("SUB 0 1 2", 0, -9841).is(9841);
        after("SUB 0 1 2", 0, 9841).is(-9841);
        after("SUB 0 1 2", 9841, 9841).is(0);
        forEdges("SUB 0 1 2", (left, right) -> left - right);
    }

    private static void mulWraps() {
        after("MUL 0 1 2", 757, 13).is(9841);
        after("MUL 0 1 2", 4921, 2).is(-9841);
        after("MUL 0 1 2", 2, 4921).is(-9841);
        after("MUL 0 1 2", 757, -13).is(-9841);
        after("MUL 0 1 2", -4921, 2).is(9841);
        after("MUL 0 1 2", 9841, 1).is(9841);
        after("MUL 0 1 2", 9841, -1).is(-9841);
        after("MUL 0 1 2", 9841, 0).is(0);
        after("MUL 0 1 2", 6561, 3).is(0);
        after("MUL 0 1 2", 9841, 2).is(-1);
        // 96845281, the greatest product, is 4921 more than 4920 times 19683; it is past 16 bits and past 24.
        after("MUL 0 1 2", 9841, 9841).is(4921);
        after("MUL 0 1 2", -9841, -9841).is(4921);
        after("MUL 0 1 2", 9841, -9841).is(-4921);
        after("MUL 0 1 2", -9841, 9841).is(-4921);
        forEdges("MUL 0 1 2", (left, right) -> left * right);
    }

    private interface Exact {
        long of(long left, long right);
    }

    private static void forEdges(String statement, Exact exact) {
        for (int left : EDGE_VALUES) {
            for (int right : EDGE_VALUES) {
                long number = exact.of(left, right);
                after(statement, left, right).is(Math.floorMod(number + 9841, 19683L) - 9841);
            }
        }
    }

    private static void upWraps() {
        int[][] pairs = {
            {0, 0}, {1, 3}, {-1, -3}, {3280, 9840}, {3281, -9840}, {-3280, -9840}, {-3281, 9840},
            {6560, -3}, {6561, 0}, {6562, 3}, {-6560, 3}, {-6561, 0}, {-6562, -3}, {9841, 9840}, {-9841, -9840},
        };
        for (int[] pair : pairs) {
            after("UP 0 1", pair[0]).is(pair[1]);
        }
    }

    private static void downDropsTheLowest() {
        int[][] pairs = {
            {0, 0}, {1, 0}, {2, 1}, {3, 1}, {4, 1}, {5, 2}, {-1, 0}, {-2, -1}, {-3, -1}, {-4, -1}, {-5, -2},
            {9841, 3280}, {9840, 3280}, {9839, 3280}, {9838, 3279}, {-9841, -3280}, {-9840, -3280}, {-9839, -3280}, {-9838, -3279},
        };
        for (int[] pair : pairs) {
            after("DOWN 0 1", pair[0]).is(pair[1]);
        }
    }

    private static void lowTakesTheSmaller() {
        for (int weight : WEIGHTS) {
            for (int left = -1; left <= 1; left++) {
                for (int right = -1; right <= 1; right++) {
                    after("LOW 0 1 2", left * weight, right * weight).is(Math.min(left, right) * weight);
                }
            }
        }
        after("LOW 0 1 2", 9841, 9841).is(9841);
        after("LOW 0 1 2", 9841, -9841).is(-9841);
        after("LOW 0 1 2", -9841, 9841).is(-9841);
        after("LOW 0 1 2", -9841, -9841).is(-9841);
        after("LOW 0 1 2", 9841, 0).is(0);
        after("LOW 0 1 2", -9841, 0).is(-9841);
        // 9840 has all trits but t0, and 1 has t0 alone.
        after("LOW 0 1 2", 9840, 1).is(0);
        after("LOW 0 1 2", -9840, -1).is(-9841);
        // 2 is 3 - 1 and -2 is -3 + 1.
        after("LOW 0 1 2", 2, -2).is(-4);
    }

    private static void caseBegins() {
        int[] ends = {0, 5};
        for (int v : ends) {
            Subject x = new Subject().feed("SET 1 11; CASE " + v + "; PRINT 1; PRINT " + v + "; END");
            x.put(v, -1);
            x.prints(11, -1);
            x.put(v, 0);
            x.prints();
            x.put(v, 1);
            x.prints();
        }
        // Without a CASE there is no choice, and with nothing in it the choice passes nothing.
        new Subject().feed("PRINT 0; END").run().is(Subject.UNSOUND);
        Subject empty = new Subject().feed("CASE 0; END; PRINT 0");
        empty.put(0, -9841);
        empty.prints(-9841);
        new Subject().add(7, -1, 0, 0).is(BAD);
        new Subject().add(7, 6, 0, 0).is(BAD);
    }

    private static void zeroIsOfTheLatest() {
        // The inner choice's ZERO comes while both are open, the outer one's when the inner one is closed.
        Subject x = new Subject().feed("SET 2 2; SET 3 3; CASE 0; CASE 1; ZERO; PRINT 2; END; ZERO; PRINT 3; END");
        putBoth(x, -1, 0).prints(2);
        putBoth(x, -1, -1).prints();
        putBoth(x, -1, 1).prints();
        putBoth(x, 0, 0).prints(3);
        putBoth(x, 1, 0).prints();
        Subject three = new Subject().feed("SET 2 2; CASE 0; ZERO; CASE 0; ZERO; CASE 0; ZERO; PRINT 2; END; END; END");
        three.prints(2);
        three.put(0, 1);
        three.prints();
    }

    private static void posIsOfTheLatest() {
        Subject x = new Subject().feed("SET 2 2; SET 3 3; CASE 0; CASE 1; POS; PRINT 2; END; POS; PRINT 3; END");
        putBoth(x, -1, 1).prints(2);
        putBoth(x, -1, -1).prints();
        putBoth(x, -1, 0).prints();
        putBoth(x, 1, 1).prints(3);
        putBoth(x, 0, 1).prints();
        Subject three = new Subject().feed("SET 2 2; CASE 0; POS; CASE 0; POS; CASE 0; POS; PRINT 2; END; END; END");
        three.prints();
        three.put(0, 1);
        three.prints(2);
    }

    private static Subject putBoth(Subject x, int first, int second) {
        x.put(0, first);
        x.put(1, second);
        return x;
    }

    private static void loopPasses() {
        for (int passes = 0; passes <= 5; passes++) {
            Subject x = new Subject();
            x.put(1, 1);
            // A variable of the same number holds something else, as a is the number of passes itself.
            x.put(passes, passes == 1 ? 1 : 3);
            x.put(0, 0);
            x.feed("LOOP " + passes + "; ADD 0 0 1; PRINT 0; END; PRINT 1");
            x.run().is(passes + 1);
            x.variable(0).is(passes);
            for (int k = 0; k < passes; k++) {
                x.output(k).is(k + 1);
            }
            x.output(passes).is(1);
            x.run().is(passes + 1);
            x.variable(0).is(2 * passes);
        }
        new Subject().add(10, -1, 0, 0).is(BAD);
        new Subject().add(10, 6, 0, 0).is(BAD);
        for (int passes = 0; passes <= 5; passes++) {
            String head = "LOOP " + passes + "; ";
            new Subject().feed(head + head + head + "PRINT 0; END; END; END").run().is(passes * passes * passes);
            new Subject().feed(head + "END; PRINT 0").prints(0);
            new Subject().feed(head + "LOOP 0; PRINT 0; END; END").prints();
            new Subject().feed("LOOP 0; " + head + "PRINT 0; END; END").prints();
        }
    }

    private static void endClosesTheLatest() {
        // The first END closes what was opened last: what stands between the two is still in the outer one.
        new Subject().feed("SET 1 1; LOOP 2; LOOP 3; PRINT 0; END; PRINT 1; END").prints(0, 0, 0, 1, 0, 0, 0, 1);
        new Subject().feed("SET 1 1; LOOP 2; CASE 0; END; PRINT 1; END; PRINT 0").prints(1, 1, 0);
        Subject choice = new Subject().feed("CASE 0; LOOP 2; PRINT 0; END; PRINT 1; END; PRINT 2");
        choice.prints(0);
        choice.put(0, -4);
        choice.prints(-4, -4, 0, 0);
        new Subject().feed("CASE 0; CASE 0; END; END").sound().is(true);
        new Subject().feed("CASE 0; CASE 0; END").sound().is(false);
        new Subject().feed("LOOP 1; LOOP 1; END; END; END").sound().is(false);
    }

    private static void printAddsAtTheEnd() {
        Subject x = new Subject().feed("PRINT 0; PRINT 5; PRINT 0");
        x.put(0, 9841);
        x.put(5, -9841);
        x.prints(9841, -9841, 9841);
        new Subject().add(12, -1, 0, 0).is(BAD);
        new Subject().add(12, 6, 0, 0).is(BAD);
        // Beyond the 48 that are kept the number goes on, and those kept are the first ones.
        Subject many = new Subject().feed("LOOP 5; LOOP 5; PRINT 0; ADD 0 0 1; PRINT 0; ADD 0 0 1; END; END; PRINT 1");
        many.put(1, 1);
        many.run().is(51);
        many.output(0).is(0);
        many.output(47).is(47);
        many.output(48).is(BAD);
    }

    private static void choiceGoesBySign() {
        int[] values = {-9841, -2, -1, 0, 1, 2, 9841};
        for (int value : values) {
            int want = Integer.signum(value);
            String choice = "CASE 5; PRINT 1; ZERO; PRINT 2; POS; PRINT 3; END";
            Subject x = sections(choice);
            x.put(5, value);
            x.prints(want);
            // The other sections aren't come to when the one passed makes the sign theirs.
            Subject turned = sections("CASE 5; SET 5 0; PRINT 1; ZERO; SET 5 1; PRINT 2; POS; SET 5 -1; PRINT 3; END; PRINT 5");
            turned.put(5, value);
            turned.prints(want, want < 0 ? 0 : want == 0 ? 1 : -1);
            // What the sign was before the run plays no part, nor what it is after the choice.
            Subject late = sections("SET 5 " + value + "; " + choice + "; SET 5 0");
            late.put(5, value < 0 ? 1 : -1);
            late.prints(want);
        }
        // 9841 + 1 wraps to -9841, so the sign turns over.
        Subject over = sections("ADD 5 5 4; CASE 5; PRINT 1; ZERO; PRINT 2; POS; PRINT 3; END");
        over.put(4, 1);
        over.put(5, 9840);
        over.prints(1);
        over.prints(-1);
    }

    /** A program whose PRINT 1, PRINT 2 and PRINT 3 print -1, 0 and 1. */
    private static Subject sections(String program) {
        Subject x = new Subject().feed(program);
        x.put(1, -1);
        x.put(2, 0);
        x.put(3, 1);
        return x;
    }

    private static void sectionsNotBegun() {
        String[] zeros = {"", "ZERO; ", "ZERO; PRINT 2; "};
        String[] positives = {"", "POS; ", "POS; PRINT 3; "};
        String[] negatives = {"", "PRINT 1; "};
        for (String negative : negatives) {
            for (String zero : zeros) {
                for (String positive : positives) {
                    String program = "CASE 5; " + negative + zero + positive + "END; PRINT 5";
                    dueSection(program, -1, negative.contains("PRINT"));
                    dueSection(program, 0, zero.contains("PRINT"));
                    dueSection(program, 1, positive.contains("PRINT"));
                }
            }
        }
    }

    private static void dueSection(String program, int sign, boolean prints) {
        int[] values = sign == 0 ? new int[] {0} : new int[] {sign, 9841 * sign};
        for (int value : values) {
            Subject x = sections(program);
            x.put(5, value);
            if (prints) {
                x.prints(sign, value);
            } else {
                x.prints(value);
            }
        }
    }

    private static void sound(String program, boolean want) {
        Subject x = new Subject().feed(program);
        x.sound().is(want);
        if (want) {
            Sentences.due("run() of " + program + " is not refused", x.run().got >= 0 ? 1 : 0, 1);
        } else {
            x.run().is(Subject.UNSOUND);
        }
    }

    private static String times(int n, String text) {
        return text.repeat(n);
    }

    private static void everyEndCloses() {
        sound("", true);
        sound("END", false);
        sound("PRINT 0; END", false);
        sound("END; LOOP 0", false);
        sound("END; CASE 0; END", false);
        String[] openers = {"CASE 0; ", "LOOP 0; ", "LOOP 5; "};
        for (String opener : openers) {
            sound(opener + "END; ", true);
            sound(opener + "END; END; ", false);
            sound(opener + "END; END; " + opener + "END; ", false);
            sound(times(3, opener) + times(3, "END; "), true);
            sound(times(3, opener) + times(4, "END; "), false);
            sound(times(20, opener + "END; "), true);
            sound(times(19, opener + "END; ") + "END; ", false);
            sound(times(19, opener + "END; ") + "END; PRINT 0; ", false);
        }
        sound(times(39, "PRINT 0; ") + "END; ", false);
        sound("END; " + times(39, "PRINT 0; "), false);
    }

    private static void everythingIsClosed() {
        String[] openers = {"CASE 0; ", "LOOP 0; ", "LOOP 5; ", "CASE 0; ZERO; ", "CASE 0; POS; "};
        for (String opener : openers) {
            sound(opener, false);
            sound(opener + "END; ", true);
            sound(opener + opener + "END; ", false);
            sound(opener + opener + "END; END; ", true);
            sound(times(3, opener) + "END; END; ", false);
            sound(times(3, opener) + "END; END; END; ", true);
            sound(opener + "END; " + opener, false);
        }
        sound("LOOP 1; " + times(38, "PRINT 0; ") + "END; ", true);
        sound("LOOP 1; " + times(39, "PRINT 0; "), false);
        sound(times(39, "PRINT 0; ") + "LOOP 1; ", false);
        sound(times(39, "PRINT 0; ") + "CASE 1; ", false);
    }

    private static void atMostThreeOpen() {
        for (int mix = 0; mix < 16; mix++) {
            StringBuilder openers = new StringBuilder();
            for (int depth = 1; depth <= 4; depth++) {
                openers.append((mix >> depth - 1 & 1) == 0 ? "CASE 0; " : "LOOP 1; ");
                sound(openers + times(depth, "END; "), depth <= 3);
            }
            // It is counted at each place, so closing the fourth at once doesn't help.
            sound(openers + "END; END; END; END; PRINT 0", false);
        }
        sound(times(3, "LOOP 1; LOOP 1; LOOP 1; END; END; END; "), true);
        sound("LOOP 1; LOOP 1; LOOP 1; END; CASE 0; END; LOOP 1; END; END; END", true);
        sound("LOOP 1; LOOP 1; LOOP 1; END; CASE 0; LOOP 1; END; END; END; END", false);
        sound("CASE 0; ZERO; CASE 0; ZERO; CASE 0; ZERO; END; END; END", true);
        sound("CASE 0; ZERO; CASE 0; ZERO; CASE 0; ZERO; CASE 0; END; END; END; END", false);
        sound("CASE 0; POS; CASE 0; POS; CASE 0; POS; LOOP 0; END; END; END; END", false);
        sound("LOOP 0; LOOP 0; LOOP 0; LOOP 0; END; END; END; END", false);
        sound(times(34, "PRINT 0; ") + "LOOP 1; LOOP 1; LOOP 1; END; END; END", true);
        sound(times(32, "PRINT 0; ") + "LOOP 1; LOOP 1; LOOP 1; CASE 0; END; END; END; END", false);
    }

    private static void sectionsAreOfChoices() {
        String[] sections = {"ZERO; ", "POS; "};
        for (String section : sections) {
            sound("CASE 0; " + section + "END", true);
            sound(section, false);
            sound(section + "CASE 0; END", false);
            sound("CASE 0; END; " + section, false);
            sound("LOOP 1; " + section + "END", false);
            sound("LOOP 0; " + section + "END", false);
            sound("CASE 0; LOOP 1; " + section + "END; END", false);
            sound("CASE 0; LOOP 1; END; " + section + "END", true);
            sound("LOOP 1; CASE 0; " + section + "END; END", true);
            sound("LOOP 1; CASE 0; END; " + section + "END", false);
            sound("LOOP 1; LOOP 1; CASE 0; " + section + "END; END; END", true);
            sound("CASE 0; CASE 0; LOOP 1; " + section + "END; END; END", false);
            sound(times(39, "PRINT 0; ") + section, false);
            sound(section + times(39, "PRINT 0; "), false);
        }
    }

    private static void atMostOneZero() {
        sound("CASE 0; END", true);
        sound("CASE 0; ZERO; END", true);
        sound("CASE 0; ZERO; ZERO; END", false);
        sound("CASE 0; ZERO; PRINT 0; ZERO; END", false);
        sound("CASE 0; ZERO; ZERO; POS; END", false);
        sound("CASE 0; ZERO; LOOP 1; END; ZERO; END", false);
        sound("CASE 0; ZERO; CASE 0; END; ZERO; END", false);
        sound("CASE 0; ZERO; CASE 0; ZERO; END; ZERO; END", false);
        // It is counted in each choice, not over the program.
        sound("CASE 0; ZERO; CASE 0; ZERO; CASE 0; ZERO; END; END; END", true);
        sound("CASE 0; CASE 0; ZERO; END; ZERO; END", true);
        sound(times(13, "CASE 0; ZERO; END; "), true);
    }

    private static void atMostOnePos() {
        sound("CASE 0; POS; END", true);
        sound("CASE 0; POS; POS; END", false);
        sound("CASE 0; POS; PRINT 0; POS; END", false);
        sound("CASE 0; ZERO; POS; END", true);
        sound("CASE 0; ZERO; POS; POS; END", false);
        sound("CASE 0; POS; LOOP 1; END; POS; END", false);
        sound("CASE 0; POS; CASE 0; END; POS; END", false);
        sound("CASE 0; POS; CASE 0; POS; END; POS; END", false);
        sound("CASE 0; POS; CASE 0; POS; CASE 0; POS; END; END; END", true);
        sound("CASE 0; CASE 0; POS; END; POS; END", true);
        sound(times(13, "CASE 0; POS; END; "), true);
    }

    private static void noZeroAfterPos() {
        sound("CASE 0; ZERO; POS; END", true);
        sound("CASE 0; POS; ZERO; END", false);
        sound("CASE 0; POS; PRINT 0; ZERO; END", false);
        sound("CASE 0; ZERO; POS; ZERO; END", false);
        sound("CASE 0; POS; LOOP 1; END; ZERO; END", false);
        sound("CASE 0; POS; CASE 0; END; ZERO; END", false);
        sound("CASE 0; POS; CASE 0; ZERO; POS; END; ZERO; END", false);
        // A ZERO of another choice may come after it.
        sound("CASE 0; POS; CASE 0; ZERO; END; END", true);
        sound("CASE 0; CASE 0; POS; END; ZERO; END", true);
        sound("CASE 0; POS; END; CASE 0; ZERO; END", true);
    }
}
