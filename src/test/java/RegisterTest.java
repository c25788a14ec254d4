/** Promises 9 to 12. */
public final class RegisterTest {
    private static final Due due = new Due();

    public static void main(String[] args) {
        loads();
        stepsOneByOne();
        manySteps();
        channels();
        channelsAreRefused();
        channelClearsTheCircuit();
        patterns();
        due.end();
    }

    private static void loads() {
        ShiftSignatures x = new ShiftSignatures();
        x.polynomial(19);
        x.channel(9);
        x.gate(ShiftSignatures.NOT, 0, 0);
        due.answer("load(15)", x.load(15), 1);
        due.answer("load(0)", x.load(0), 15);
        due.answer("load(9)", x.load(9), 0);
        due.answer("the lines behind load", x.faults(0, 0), 4);
        for (long v : new long[] {16, 31, 4294967296L, Long.MAX_VALUE, Long.MIN_VALUE, -1}) {
            due.refusal("load(" + v + ")", x, IllegalArgumentException.class, () -> x.load(v));
        }
        due.answer("the register behind refused loads", x.load(1), 9);
        x.polynomial(4299161607L);
        due.answer("load(2^32 - 1)", x.load(4294967295L), 1);
        due.answer("load(2^32 - 1) again", x.load(4294967295L), 4294967295L);
        due.refusal("load(2^32)", x, IllegalArgumentException.class, () -> x.load(4294967296L));
    }

    private static void stepsOneByOne() {
        ShiftSignatures x = new ShiftSignatures();
        x.polynomial(19);
        long[] powers = {2, 4, 8, 3, 6, 12, 11, 5, 10, 7, 14, 15, 13, 9, 1, 2};
        for (int k = 0; k < powers.length; k++) {
            due.answer("step " + k, x.steps(1), powers[k]);
        }
        due.answer("steps(0)", x.steps(0), 2);
        x.load(0);
        due.answer("steps(5) of 0", x.steps(5), 0);
    }

    private static void manySteps() {
        ShiftSignatures x = new ShiftSignatures();
        due.answer("steps(1) modulo x + 1", x.steps(1), 1);
        due.answer("steps(MAX) modulo x + 1", x.steps(Long.MAX_VALUE), 1);
        x.polynomial(19);
        x.load(9);
        due.answer("steps(4)", x.steps(4), 8);
        due.answer("steps(11)", x.steps(11), 9);
        due.answer("steps(15 * 2^40)", x.steps(15L << 40), 9);
        // 2^63 - 1 leaves 7 when divided by 15, and 9 is x^14.
        due.answer("steps(MAX)", x.steps(Long.MAX_VALUE), 12);
        due.refusal("steps(-1)", x, IllegalArgumentException.class, () -> x.steps(-1));
        due.refusal("steps(MIN)", x, IllegalArgumentException.class, () -> x.steps(Long.MIN_VALUE));
        due.answer("the register behind refused steps", x.load(1), 12);
        x.polynomial(5);
        x.load(3);
        due.answer("steps(1) of x + 1 modulo x^2 + 1", x.steps(1), 3);
    }

    private static void channels() {
        ShiftSignatures x = new ShiftSignatures();
        x.polynomial(19);
        for (int c = 0; c < 8; c++) {
            due.answer("channel(" + (15 - c) + ")", x.channel(15 - c), c);
            due.answer("the faults with it", x.faults(0, 0), 2 * c + 2);
        }
        due.refusal("channel(1) with 8", x, IllegalStateException.class, () -> x.channel(1));
        due.refusal("channel(16) with 8", x, IllegalArgumentException.class, () -> x.channel(16));
        x.polynomial(3);
        due.answer("channel(0) behind a new polynomial", x.channel(0), 0);
    }

    private static void channelsAreRefused() {
        ShiftSignatures x = new ShiftSignatures();
        x.polynomial(19);
        x.channel(8);
        x.gate(ShiftSignatures.NOT, 0, 0);
        x.output(1);
        for (long mask : new long[] {16, 24, Long.MAX_VALUE, Long.MIN_VALUE, -1}) {
            due.refusal("channel(" + mask + ")", x, IllegalArgumentException.class, () -> x.channel(mask));
        }
        x.polynomial(4299161607L);
        due.answer("channel(2^32 - 1)", x.channel(4294967295L), 0);
        due.refusal("channel(2^32)", x, IllegalArgumentException.class, () -> x.channel(4294967296L));
    }

    private static void channelClearsTheCircuit() {
        ShiftSignatures x = new ShiftSignatures();
        x.polynomial(19);
        x.load(5);
        x.channel(1);
        x.gate(ShiftSignatures.NOT, 0, 0);
        x.output(0);
        x.output(1);
        due.answer("answer(1, NONE)", x.answer(1, -1), 1);
        due.answer("answer(0, NONE)", x.answer(0, -1), 2);
        due.answer("channel(4)", x.channel(4), 1);
        due.answer("the faults behind it", x.faults(0, 0), 4);
        due.answer("answer(3, NONE) behind it", x.answer(3, -1), 0);
        due.answer("the register behind it", x.steps(0), 5);
        due.answer("the first channel stays", x.pattern(), 3);
        due.answer("the first gate behind it", x.gate(ShiftSignatures.AND, 0, 1), 2);
        due.answer("the first output behind it", x.output(2), 0);
        due.answer("answer(3, NONE) with them", x.answer(3, -1), 1);
    }

    private static void patterns() {
        ShiftSignatures x = new ShiftSignatures();
        x.polynomial(19);
        x.channel(8);
        x.channel(0);
        x.channel(11);
        x.channel(15);
        int[] bits = {0, 12, 12, 0, 8, 4, 4, 8, 13, 1, 1, 13, 5, 9, 9, 5};
        for (int v = 0; v < 16; v++) {
            x.load(v);
            due.answer("pattern() of " + v, x.pattern(), bits[v]);
        }
        due.answer("the register behind pattern()", x.steps(0), 15);
        x.polynomial(4299161607L);
        x.load(4294967295L);
        for (int c = 0; c < 8; c++) {
            x.channel(4294967295L >> c);
        }
        due.answer("pattern() of 8 channels", x.pattern(), 0xAA);
    }
}
