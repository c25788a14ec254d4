/** Promises 13 to 15, and what the terms say of circuits and faults. */
public final class CircuitTest {
    /** Bit p of a table is the gate's value where the pattern of two channels is p. */
    private static final int[] TABLES = {0x8, 0xE, 0x6, 0x7, 0x1, 0x5};
    private static final int[] NO_KINDS = {-1, 6, 7, Integer.MAX_VALUE, Integer.MIN_VALUE};
    private static final Due due = new Due();

    public static void main(String[] args) {
        due.run(
                CircuitTest::linesAreNumberedFromZero,
                CircuitTest::tablesOfAllKinds,
                CircuitTest::gatesOfTheSameLineTwice,
                CircuitTest::gatesOfLinesBeforeThem,
                CircuitTest::noSuchKind,
                CircuitTest::noSuchFirstLine,
                CircuitTest::noSuchSecondLine,
                CircuitTest::notHasNoSecondLine,
                CircuitTest::twentyFiveGates,
                CircuitTest::outputsAreNumberedAsTold,
                CircuitTest::outputOfNoLine,
                CircuitTest::outputMoreThanOnce,
                CircuitTest::seventeenOutputs,
                CircuitTest::answerOfNoOutputs,
                CircuitTest::answersOfSixteenOutputs,
                CircuitTest::stuckLines,
                CircuitTest::stuckWhateverTheyAreTold,
                CircuitTest::bitsBehindTheLastChannel,
                CircuitTest::firstAndLastFault,
                CircuitTest::noSuchFault);
    }

    private static void linesAreNumberedFromZero() {
        due.sentence("Terms: LINES, numbered from 0 on: first one for each channel there is, then at most 24 GATES");
        ShiftSignatures x = Made.of(19);
        for (int channels = 1; channels <= 8; channels++) {
            x.channel(channels);
            for (int g = 0; g < 24; g++) {
                due.answer("gate " + g + " behind " + channels, x.gate(5, channels + g - 1, 0), channels + g);
            }
            due.answer("faults(0, 0)", x.faults(0, 0), 2 * (channels + 24));
            due.answer("output of the last line", x.output(channels + 23), 0);
            // 24 times NOT, so that the last line is the last channel.
            due.answer("answer of the last channel", x.answer(1 << (channels - 1), -1), 1);
            due.answer("answer of the others", x.answer(~(1 << (channels - 1)), -1), 0);
        }
    }

    private static void tablesOfAllKinds() {
        due.sentence("Terms: AND 0, OR 1, XOR 2, NAND 3, NOR 4 of two lines before it, NOT 5 of one");
        for (int kind = 0; kind <= 5; kind++) {
            ShiftSignatures x = Made.of(19, 1, 2);
            due.answer("gate(" + kind + ", 0, 1)", x.gate(kind, 0, 1), 2);
            x.output(2);
            for (int pattern = 0; pattern < 4; pattern++) {
                due.answer("kind " + kind + " of " + pattern, x.answer(pattern, -1), TABLES[kind] >> pattern & 1);
            }
        }
        int[] named = {
            ShiftSignatures.AND, ShiftSignatures.OR, ShiftSignatures.XOR,
            ShiftSignatures.NAND, ShiftSignatures.NOR, ShiftSignatures.NOT
        };
        for (int kind = 0; kind <= 5; kind++) {
            due.answer("the constant of kind " + kind, named[kind], kind);
        }
    }

    private static void gatesOfTheSameLineTwice() {
        due.sentence("Terms: of two lines before it (that may be one line)");
        int[] atZero = {0, 0, 0, 1, 1};
        int[] atOne = {1, 1, 0, 0, 0};
        for (int kind = 0; kind <= 4; kind++) {
            ShiftSignatures x = Made.of(19, 1);
            due.answer("gate(" + kind + ", 0, 0)", x.gate(kind, 0, 0), 1);
            x.output(1);
            due.answer("kind " + kind + " of 0 and 0", x.answer(0, -1), atZero[kind]);
            due.answer("kind " + kind + " of 1 and 1", x.answer(1, -1), atOne[kind]);
        }
    }

    /** The line that a gate would become is not there yet; the one just before it is. */
    private static void gatesOfLinesBeforeThem() {
        due.sentence("Terms: of two lines before it");
        for (int kind = 0; kind <= 5; kind++) {
            int k = kind;
            due.badIndex("gate(" + k + ", its own line, 0)", Made::small, x -> x.gate(k, 3, 0));
            due.answer("gate(" + k + ", the last line, 0)", Made.small().gate(k, 2, 0), 3);
            if (k != ShiftSignatures.NOT) {
                due.badIndex("gate(" + k + ", 0, its own line)", Made::small, x -> x.gate(k, 0, 3));
                due.answer("gate(" + k + ", 0, the last line)", Made.small().gate(k, 0, 2), 3);
            }
        }
    }

    private static void noSuchKind() {
        due.sentence("Promise 13: IllegalArgument: the kind is not 0 .. 5");
        for (int kind : NO_KINDS) {
            due.badArgument("gate(" + kind + ", 0, 1)", Made::small, x -> x.gate(kind, 0, 1));
        }
        for (int kind = 0; kind <= 5; kind++) {
            due.answer("gate(" + kind + ", 0, 1)", Made.small().gate(kind, 0, 1), 3);
        }
    }

    private static void noSuchFirstLine() {
        due.sentence("Promise 13: IndexOutOfBounds: a is no line");
        for (int line : new int[] {3, 4, 32, Integer.MAX_VALUE, -1, Integer.MIN_VALUE}) {
            for (int kind = 0; kind <= 5; kind++) {
                int k = kind;
                due.badIndex("gate(" + k + ", " + line + ", 0)", Made::small, x -> x.gate(k, line, 0));
            }
        }
    }

    private static void noSuchSecondLine() {
        due.sentence("Promise 13: IndexOutOfBounds: b is no line");
        for (int line : new int[] {3, 4, 32, Integer.MAX_VALUE, -1, Integer.MIN_VALUE}) {
            for (int kind = 0; kind <= 4; kind++) {
                int k = kind;
                due.badIndex("gate(" + k + ", 0, " + line + ")", Made::small, x -> x.gate(k, 0, line));
                due.badIndex("gate(" + k + ", " + line + ", " + line + ")", Made::small, x -> x.gate(k, line, line));
            }
        }
    }

    private static void notHasNoSecondLine() {
        due.sentence("Promise 13: b (but for NOT)");
        for (int line : new int[] {0, 1, 2, 3, 32, Integer.MAX_VALUE, -1, -5, Integer.MIN_VALUE}) {
            ShiftSignatures x = Made.of(19, 1, 2);
            due.answer("gate(NOT, 1, " + line + ")", x.gate(ShiftSignatures.NOT, 1, line), 2);
            x.output(2);
            for (int pattern = 0; pattern < 4; pattern++) {
                due.answer("its answer to " + pattern, x.answer(pattern, -1), 1 - pattern / 2);
                due.answer("its answer to " + pattern + ", line 0 stuck", x.answer(pattern, 1), 1 - pattern / 2);
            }
        }
    }

    private static void twentyFiveGates() {
        due.sentence("Promise 13: IllegalState: there are 24");
        ShiftSignatures x = Made.of(19, 1, 2);
        for (int g = 0; g < 24; g++) {
            due.answer("gate " + g, x.gate(ShiftSignatures.XOR, g, g + 1), g + 2);
        }
        due.answer("output of the last gate", x.output(25), 0);
        // Lines go as Fibonacci numbers do, modulo 2: line 25 is line 1 as 25 leaves 1 when divided by 3.
        for (int pattern = 0; pattern < 4; pattern++) {
            due.answer("answer(" + pattern + ", NONE) of 24 gates", x.answer(pattern, -1), pattern >> 1);
        }
        for (int kind = 0; kind <= 5; kind++) {
            int k = kind;
            due.badState("gate(" + k + ", 0, 1) with 24", Made::full, y -> y.gate(k, 0, 1));
            due.badState("gate(" + k + ", 31, 31) with 24", Made::full, y -> y.gate(k, 31, 31));
            due.badState("gate(" + k + ", 24, 0) with 24", CircuitTest::oneChannel, y -> y.gate(k, 24, 0));
        }
        due.badState("gate(NOT, 0, 99) with 24", Made::full, y -> y.gate(ShiftSignatures.NOT, 0, 99));
    }

    private static void outputsAreNumberedAsTold() {
        due.sentence("Terms: outputs, at most 16, are numbered as they were told");
        ShiftSignatures x = Made.of(19, 1, 2);
        due.answer("output(1)", x.output(1), 0);
        due.answer("output(0)", x.output(0), 1);
        due.answer("a gate behind outputs", x.gate(ShiftSignatures.NOR, 0, 1), 2);
        due.answer("output(2)", x.output(2), 2);
        int[] sums = {4, 2, 1, 3};
        for (int pattern = 0; pattern < 4; pattern++) {
            due.answer("answer(" + pattern + ", NONE)", x.answer(pattern, -1), sums[pattern]);
        }
    }

    private static void outputOfNoLine() {
        due.sentence("Promise 14: IndexOutOfBounds");
        for (int line : new int[] {3, 4, 31, 32, Integer.MAX_VALUE, -1, -2, Integer.MIN_VALUE}) {
            due.badIndex("output(" + line + ")", Made::small, x -> x.output(line));
        }
        due.badIndex("output(32) of 32 lines", CircuitTest::allLines, x -> x.output(32));
        due.answer("output(31) of 32 lines", allLines().output(31), 0);
        due.answer("output(0) of 32 lines", allLines().output(0), 0);
        due.badIndex("output(1) of one channel", () -> Made.of(19, 1), x -> x.output(1));
    }

    private static void outputMoreThanOnce() {
        due.sentence("Promise 14: A line becomes an output (more than once if so told): the output's number");
        ShiftSignatures x = Made.of(19, 1, 2);
        for (int i = 0; i < 16; i++) {
            due.answer("output(1) for the time " + i, x.output(1), i);
            due.answer("answer(2, NONE)", x.answer(2, -1), (2 << i) - 1);
            due.answer("answer(1, NONE)", x.answer(1, -1), 0);
        }
    }

    private static void seventeenOutputs() {
        due.sentence("Promise 14: IllegalState: there are 16");
        for (int line : new int[] {0, 7, 8, 31}) {
            due.badState("output(" + line + ") with 16", Made::full, x -> x.output(line));
        }
        ShiftSignatures x = Made.of(19, 1);
        for (int i = 0; i < 16; i++) {
            due.answer("output " + i, x.output(0), i);
        }
        due.answer("a gate behind 16 outputs", x.gate(ShiftSignatures.NOT, 0, 0), 1);
        due.answer("output 17", Due.thrownBy(x, y -> y.output(1)) == IllegalStateException.class, true);
        due.answer("answer(1, NONE) behind it", x.answer(1, -1), 65535);
        due.answer("answer(0, NONE) behind it", x.answer(0, -1), 0);
    }

    private static void answerOfNoOutputs() {
        due.sentence("Terms: the ANSWER is the sum of 2^i for all outputs i whose line is 1 (of none it is 0)");
        ShiftSignatures x = Made.of(19, 1);
        x.gate(ShiftSignatures.NOT, 0, 0);
        for (int fault = -1; fault < 4; fault++) {
            due.answer("answer(0, " + fault + ")", x.answer(0, fault), 0);
            due.answer("answer(1, " + fault + ")", x.answer(1, fault), 0);
        }
    }

    private static void answersOfSixteenOutputs() {
        due.sentence("Terms: the ANSWER is the sum of 2^i for all outputs i whose line is 1");
        ShiftSignatures x = Made.of(19, 1, 2);
        x.gate(ShiftSignatures.NOR, 0, 1);
        int[] lines = {1, 0, 2, 2, 0, 1, 1, 1, 2, 0, 0, 1, 2, 1, 0, 2};
        for (int i = 0; i < 16; i++) {
            due.answer("output(" + lines[i] + ")", x.output(lines[i]), i);
        }
        for (int pattern = 0; pattern < 4; pattern++) {
            int[] values = {pattern & 1, pattern >> 1, pattern == 0 ? 1 : 0};
            int sum = 0;
            for (int i = 0; i < 16; i++) {
                sum += values[lines[i]] << i;
            }
            due.answer("answer(" + pattern + ", NONE)", x.answer(pattern, -1), sum);
        }
    }

    private static void stuckLines() {
        due.sentence("Promise 15: a line STUCK at 0 (2 * line) or 1 (2 * line + 1), or none (NONE)");
        ShiftSignatures x = Made.of(19, 1, 2);
        x.gate(ShiftSignatures.AND, 0, 1);
        x.gate(ShiftSignatures.NOT, 2, 0);
        x.output(3);
        x.output(0);
        x.output(2);
        int[][] sums = {
            // none, then lines 0 to 3 stuck at 0 and at 1, each worked out by hand
            {1, 1, 3, 1, 1, 1, 4, 0, 1},
            {3, 1, 3, 3, 6, 3, 6, 2, 3},
            {1, 1, 6, 1, 1, 1, 4, 0, 1},
            {6, 1, 6, 3, 6, 3, 6, 6, 7}
        };
        for (int pattern = 0; pattern < 4; pattern++) {
            for (int fault = -1; fault < 8; fault++) {
                due.answer("answer(" + pattern + ", " + fault + ")", x.answer(pattern, fault), sums[pattern][fault + 1]);
            }
        }
    }

    private static void stuckWhateverTheyAreTold() {
        due.sentence("Terms: a line is STUCK at 0 or 1, whatever its gate or channel says");
        for (int kind = 0; kind <= 5; kind++) {
            ShiftSignatures x = Made.of(19, 1, 2);
            x.gate(kind, 0, 1);
            x.output(2);
            x.output(0);
            for (int pattern = 0; pattern < 4; pattern++) {
                due.answer("its gate " + kind + " at 0, of " + pattern, x.answer(pattern, 4) & 1, 0);
                due.answer("its gate " + kind + " at 1, of " + pattern, x.answer(pattern, 5) & 1, 1);
                due.answer("its channel at 0, of " + pattern, x.answer(pattern, 0) >> 1, 0);
                due.answer("its channel at 1, of " + pattern, x.answer(pattern, 1) >> 1, 1);
                int atZero = TABLES[kind] >> (pattern & 2) & 1;
                int atOne = TABLES[kind] >> (pattern | 1) & 1;
                due.answer("the gate " + kind + " behind a channel at 0", x.answer(pattern, 0) & 1, atZero);
                due.answer("the gate " + kind + " behind a channel at 1", x.answer(pattern, 1) & 1, atOne);
            }
        }
    }

    private static void bitsBehindTheLastChannel() {
        due.sentence("Promise 15: (bits behind the last channel don't matter)");
        for (int channels = 1; channels <= 8; channels++) {
            ShiftSignatures x = Made.of(0x11D);
            for (int c = 0; c < channels; c++) {
                x.channel(1 << c);
            }
            // The gate stands at the first bit that is behind the channels.
            x.gate(ShiftSignatures.AND, 0, 0);
            for (int line = 0; line <= channels; line++) {
                x.output(line);
            }
            int above = -1 << channels;
            int all = ~above;
            for (int bits : new int[] {0, above, 1 << channels, 1 << 31, Integer.MAX_VALUE & above}) {
                due.answer("answer(" + bits + ", NONE)", x.answer(bits, -1), 0);
                due.answer("answer(" + (bits | all) + ", NONE)", x.answer(bits | all, -1), 2 * all + 1);
                due.answer("answer(" + bits + ", 1)", x.answer(bits, 1), 1 << channels | 1);
            }
        }
    }

    private static void firstAndLastFault() {
        due.sentence("Promise 15: a line STUCK at 0 (2 * line) or 1 (2 * line + 1)");
        ShiftSignatures x = allLines();
        for (int i = 0; i < 16; i++) {
            x.output(16 + i);
        }
        due.answer("answer(0x0F, NONE)", x.answer(0x0F, -1), 0xF00F);
        due.answer("answer(0x0F, line 0 at 0)", x.answer(0x0F, 0), 0xF10E);
        due.answer("answer(0x0E, line 0 at 1)", x.answer(0x0E, 1), 0xF00F);
        due.answer("answer(0x0F, line 23 at 1)", x.answer(0x0F, 47), 0x708F);
        due.answer("answer(0x0F, line 31 at 0)", x.answer(0x0F, 62), 0x700F);
        due.answer("answer(0x0F, line 31 at 1)", x.answer(0x0F, 63), 0xF00F);
        due.answer("answer(0xFF, line 31 at 1)", x.answer(0xFF, 63), 0x80FF);
    }

    private static void noSuchFault() {
        due.sentence("Promise 15: IndexOutOfBounds: there is no such fault");
        for (int fault : new int[] {6, 7, 63, 64, Integer.MAX_VALUE, -2, -3, Integer.MIN_VALUE}) {
            due.badIndex("answer(0, " + fault + ")", Made::small, x -> x.answer(0, fault));
        }
        due.answer("answer(0, 5)", Made.small().answer(0, 5), 1);
        due.badIndex("answer(0, 64) of 32 lines", Made::full, x -> x.answer(0, 64));
        due.badIndex("answer(0, 65) of 32 lines", Made::full, x -> x.answer(0, 65));
        due.badIndex("answer(0, 2) of one channel", () -> Made.of(19, 1), x -> x.answer(0, 2));
    }

    /** 8 channels and a chain of 24 NOTs, each of the line eight before it, and no outputs. */
    private static ShiftSignatures allLines() {
        ShiftSignatures x = Made.eightChannels();
        for (int g = 0; g < 24; g++) {
            x.gate(ShiftSignatures.NOT, g, 0);
        }
        return x;
    }

    private static ShiftSignatures oneChannel() {
        ShiftSignatures x = Made.of(19, 1);
        Made.fill(x, 1);
        return x;
    }
}
