/** Promises 13 to 15. */
public final class CircuitTest {
    private static final Due due = new Due();

    public static void main(String[] args) {
        tablesOfAllKinds();
        gateIsRefused();
        twentyFourGates();
        outputs();
        stuckLines();
        sixtyFourFaults();
        faultIsRefused();
        due.end();
    }

    private static void tablesOfAllKinds() {
        // Bit p of a table is the gate's value where the pattern is p.
        int[] tables = {0x8, 0xE, 0x6, 0x7, 0x1, 0x5};
        for (int kind = 0; kind <= 5; kind++) {
            ShiftSignatures x = twoChannels();
            due.answer("gate(" + kind + ", 0, 1)", x.gate(kind, 0, 1), 2);
            x.output(2);
            for (int pattern = 0; pattern < 4; pattern++) {
                due.answer("kind " + kind + " of " + pattern, x.answer(pattern, -1), tables[kind] >> pattern & 1);
                due.answer("kind " + kind + " with bits behind", x.answer(pattern | -4, -1), tables[kind] >> pattern & 1);
            }
        }
    }

    private static void gateIsRefused() {
        ShiftSignatures x = twoChannels();
        x.output(0);
        for (int kind : new int[] {-1, 6, Integer.MAX_VALUE, Integer.MIN_VALUE}) {
            due.refusal("gate(" + kind + ", 0, 1)", x, IllegalArgumentException.class, () -> x.gate(kind, 0, 1));
            due.refusal("gate(" + kind + ", 9, 9)", x, IllegalArgumentException.class, () -> x.gate(kind, 9, 9));
        }
        for (int line : new int[] {2, 3, 32, Integer.MAX_VALUE, -1, Integer.MIN_VALUE}) {
            for (int kind = 0; kind <= 5; kind++) {
                int k = kind;
                due.refusal("gate(" + k + ", " + line + ", 0)", x, IndexOutOfBoundsException.class, () -> x.gate(k, line, 0));
            }
            for (int kind = 0; kind <= 4; kind++) {
                int k = kind;
                due.refusal("gate(" + k + ", 0, " + line + ")", x, IndexOutOfBoundsException.class, () -> x.gate(k, 0, line));
            }
        }
        due.answer("NOT with no second line", x.gate(ShiftSignatures.NOT, 1, 99), 2);
        due.answer("NOT with MIN for a second line", x.gate(ShiftSignatures.NOT, 2, Integer.MIN_VALUE), 3);
        x.output(2);
        x.output(3);
        due.answer("answer(2, NONE) of the NOTs", x.answer(2, -1), 4);
        due.answer("answer(0, NONE) of the NOTs", x.answer(0, -1), 2);
        due.answer("answer(0, 4) of the NOTs", x.answer(0, 4), 4);
    }

    private static void twentyFourGates() {
        ShiftSignatures x = twoChannels();
        for (int g = 0; g < 24; g++) {
            due.answer("gate " + g, x.gate(ShiftSignatures.XOR, g, g + 1), g + 2);
        }
        due.refusal("gate 25", x, IllegalStateException.class, () -> x.gate(ShiftSignatures.XOR, 0, 1));
        due.refusal("NOT as gate 25", x, IllegalStateException.class, () -> x.gate(ShiftSignatures.NOT, 0, 99));
        due.refusal("gate 25 of no kind", x, IllegalArgumentException.class, () -> x.gate(6, 99, 99));
        due.refusal("gate 25 of no line", x, IndexOutOfBoundsException.class, () -> x.gate(0, 26, 0));
        due.refusal("gate 25 of no second line", x, IndexOutOfBoundsException.class, () -> x.gate(0, 0, 26));
        due.answer("output of the last gate", x.output(25), 0);
        // The lines are the Fibonacci numbers' parity: line 25 is line 1 as 25 is 1 when divided by 3.
        for (int pattern = 0; pattern < 4; pattern++) {
            due.answer("answer(" + pattern + ", NONE) of 24 gates", x.answer(pattern, -1), pattern >> 1);
        }
        due.answer("a channel more", x.channel(1), 2);
        due.answer("the first gate behind it", x.gate(ShiftSignatures.OR, 0, 2), 3);
    }

    private static void outputs() {
        ShiftSignatures x = twoChannels();
        x.gate(ShiftSignatures.NOR, 0, 1);
        int[] lines = {1, 0, 2, 2, 0, 1, 1, 1, 2, 0, 0, 1, 2, 1, 0, 2};
        for (int i = 0; i < 16; i++) {
            due.answer("output(" + lines[i] + ")", x.output(lines[i]), i);
        }
        due.refusal("output 17", x, IllegalStateException.class, () -> x.output(0));
        for (int line : new int[] {3, 99, Integer.MAX_VALUE, -1, Integer.MIN_VALUE}) {
            due.refusal("output(" + line + ") with 16", x, IndexOutOfBoundsException.class, () -> x.output(line));
        }
        for (int pattern = 0; pattern < 4; pattern++) {
            int[] values = {pattern & 1, pattern >> 1, pattern == 0 ? 1 : 0};
            int sum = 0;
            for (int i = 0; i < 16; i++) {
                sum += values[lines[i]] << i;
            }
            due.answer("answer(" + pattern + ", NONE) of 16 outputs", x.answer(pattern, -1), sum);
        }
        ShiftSignatures y = twoChannels();
        y.output(1);
        for (int line : new int[] {2, Integer.MAX_VALUE, -1, Integer.MIN_VALUE}) {
            due.refusal("output(" + line + ")", y, IndexOutOfBoundsException.class, () -> y.output(line));
        }
        due.answer("the second output", y.output(1), 1);
        due.answer("gate behind outputs", y.gate(ShiftSignatures.NOT, 1, 0), 2);
        due.answer("the third output", y.output(2), 2);
        due.answer("answer(2, NONE) of them", y.answer(2, -1), 3);
        due.answer("answer(0, NONE) of them", y.answer(0, -1), 4);
    }

    private static void stuckLines() {
        ShiftSignatures x = twoChannels();
        x.gate(ShiftSignatures.AND, 0, 1);
        x.gate(ShiftSignatures.NOT, 2, 0);
        x.output(3);
        x.output(0);
        x.output(2);
        int[][] sums = {
            // none, then lines 0 to 3 stuck at 0 and at 1, each worked out by hand
            {1, 1, 3, 1, 1, 1, 4, 0, 1},
            {3, 1, 3, 3, 6, 3, 6, 2, 3},
            {1, 1, 6, 1, 1, 1, 4, 0, 1},
            {6, 1, 6, 3, 6, 3, 6, 6, 7}
        };
        for (int pattern = 0; pattern < 4; pattern++) {
            for (int fault = -1; fault < 8; fault++) {
                due.answer("answer(" + pattern + ", " + fault + ")", x.answer(pattern, fault), sums[pattern][fault + 1]);
            }
        }
    }

    private static void sixtyFourFaults() {
        ShiftSignatures x = new ShiftSignatures();
        x.polynomial(0x11D);
        for (int c = 0; c < 8; c++) {
            x.channel(1 << c);
        }
        for (int g = 0; g < 24; g++) {
            x.gate(ShiftSignatures.NOT, g, 0);
        }
        for (int i = 0; i < 16; i++) {
            x.output(16 + i);
        }
        due.answer("faults(0, 0) of 32 lines", x.faults(0, 0), 64);
        due.answer("answer(0x0F, NONE)", x.answer(0x0F, -1), 0xF00F);
        due.answer("answer(0x0F, line 31 at 0)", x.answer(0x0F, 62), 0x700F);
        due.answer("answer(0x0F, line 31 at 1)", x.answer(0x0F, 63), 0xF00F);
        due.answer("answer(0xFF, line 31 at 1)", x.answer(0xFF, 63), 0x80FF);
        due.answer("answer(0x0F, line 0 at 0)", x.answer(0x0F, 0), 0xF10E);
        due.answer("answer(0x0F, line 23 at 1)", x.answer(0x0F, 47), 0x708F);
        due.refusal("answer(0, 64)", x, IndexOutOfBoundsException.class, () -> x.answer(0, 64));
    }

    private static void faultIsRefused() {
        ShiftSignatures x = twoChannels();
        x.gate(ShiftSignatures.AND, 0, 1);
        x.output(2);
        due.answer("answer(0, 5)", x.answer(0, 5), 1);
        for (int fault : new int[] {6, 7, 64, Integer.MAX_VALUE, -2, -3, Integer.MIN_VALUE}) {
            due.refusal("answer(0, " + fault + ")", x, IndexOutOfBoundsException.class, () -> x.answer(0, fault));
        }
    }

    private static ShiftSignatures twoChannels() {
        ShiftSignatures x = new ShiftSignatures();
        x.polynomial(19);
        x.channel(1);
        x.channel(2);
        return x;
    }
}
