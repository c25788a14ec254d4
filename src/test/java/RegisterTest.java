/** Promises 9 to 12, and what the terms say of the register and of channels. */
public final class RegisterTest {
    private static final Due due = new Due();

    public static void main(String[] args) {
        due.run(
                RegisterTest::stepWrapsAround,
                RegisterTest::zeroStaysZero,
                RegisterTest::atMostEightChannels,
                RegisterTest::oddNumberOfBits,
                RegisterTest::loads,
                RegisterTest::loadOfNoResidue,
                RegisterTest::stepsOneByOne,
                RegisterTest::manySteps,
                RegisterTest::noSteps,
                RegisterTest::greatestSteps,
                RegisterTest::stepsBelowZero,
                RegisterTest::channels,
                RegisterTest::channelOfNoResidue,
                RegisterTest::ninthChannel,
                RegisterTest::patterns,
                RegisterTest::patternOfNoChannels,
                RegisterTest::patternOfEightChannels);
    }

    private static void stepWrapsAround() {
        due.sentence("Terms: a STEP multiplies it by x, modulo p");
        for (long p : Made.PRIMITIVE) {
            ShiftSignatures x = new ShiftSignatures();
            int n = x.polynomial(p);
            x.load(1L << (n - 1));
            due.answer("steps(1) of x^" + (n - 1) + " modulo " + p, x.steps(1), p ^ 1L << n);
            x.load((1L << n) - 1);
            due.answer("steps(1) of all bits modulo " + p, x.steps(1), (2L << n) - 2 ^ p);
        }
    }

    private static void zeroStaysZero() {
        due.sentence("Terms: THE REGISTER holds a residue (0 is one)");
        for (long p : new long[] {3, 19, Made.WIDE}) {
            ShiftSignatures x = Made.of(p, 1);
            x.load(0);
            due.answer("steps(1) of 0 modulo " + p, x.steps(1), 0);
            due.answer("steps(5) of 0 modulo " + p, x.steps(5), 0);
            due.answer("steps(MAX) of 0 modulo " + p, x.steps(Long.MAX_VALUE), 0);
            due.answer("pattern() of 0 modulo " + p, x.pattern(), 0);
        }
    }

    private static void atMostEightChannels() {
        due.sentence("Terms: CHANNELS, at most 8, have masks that are residues");
        for (long p : Made.PRIMITIVE) {
            ShiftSignatures x = new ShiftSignatures();
            long last = (1L << x.polynomial(p)) - 1;
            for (int c = 0; c < 8; c++) {
                due.answer("channel(" + last + ") modulo " + p, x.channel(last), c);
            }
            due.answer("pattern() of 1 modulo " + p, x.pattern(), 255);
            Class<?> got = Due.thrownBy(x, y -> y.channel(last));
            due.answer("channel 9 is refused modulo " + p, got == IllegalStateException.class, true);
            due.answer("pattern() behind it modulo " + p, x.pattern(), 255);
        }
    }

    private static void oddNumberOfBits() {
        due.sentence("Terms: a channel's bit is 1 if an odd number of bits are set in the register and in its mask");
        for (int many = 0; many <= 32; many++) {
            long bits = (1L << many) - 1;
            ShiftSignatures x = Made.of(Made.WIDE, bits, 0xFFFFFFFFL);
            x.load(0xFFFFFFFFL);
            due.answer("pattern() of " + many + " bits in the mask", x.pattern() & 1, many % 2);
            x.load(bits);
            due.answer("pattern() of " + many + " bits in the register", x.pattern() >> 1, many % 2);
        }
        ShiftSignatures apart = Made.of(19, 10);
        apart.load(5);
        due.answer("pattern() of no bits in common", apart.pattern(), 0);
    }

    private static void loads() {
        due.sentence("Promise 9: The register becomes a residue: what it was");
        ShiftSignatures x = Made.of(19, 9);
        x.gate(ShiftSignatures.NOT, 0, 0);
        due.answer("load(15)", x.load(15), 1);
        due.answer("load(0)", x.load(0), 15);
        due.answer("load(9)", x.load(9), 0);
        due.answer("load(9) again", x.load(9), 9);
        due.answer("the lines behind load", x.faults(0, 0), 4);
        due.answer("the pattern behind load", x.pattern(), 0);
        ShiftSignatures wide = Made.of(Made.WIDE);
        due.answer("load(2^32 - 1)", wide.load(0xFFFFFFFFL), 1);
        due.answer("load(2^31)", wide.load(1L << 31), 0xFFFFFFFFL);
        due.answer("load(0)", wide.load(0), 1L << 31);
        due.answer("load(0) modulo x + 1", new ShiftSignatures().load(0), 1);
    }

    private static void loadOfNoResidue() {
        due.sentence("Promise 9: IllegalArgument: it is none");
        for (long v : new long[] {8, 9, 31, 4294967296L, Long.MAX_VALUE, Long.MIN_VALUE, -1}) {
            due.badArgument("load(" + v + ")", Made::small, x -> x.load(v));
        }
        due.badArgument("load(2^32)", () -> Made.of(Made.WIDE), x -> x.load(4294967296L));
        due.badArgument("load(2) modulo x + 1", ShiftSignatures::new, x -> x.load(2));
    }

    private static void stepsOneByOne() {
        due.sentence("Promise 10: the register then");
        ShiftSignatures x = Made.of(19);
        long[] powers = {2, 4, 8, 3, 6, 12, 11, 5, 10, 7, 14, 15, 13, 9, 1, 2};
        for (int k = 0; k < powers.length; k++) {
            due.answer("step " + k, x.steps(1), powers[k]);
        }
        due.answer("load(0) behind them", x.load(0), 2);
    }

    private static void manySteps() {
        due.sentence("Promise 10: Many STEPS");
        ShiftSignatures x = Made.of(19);
        x.load(9);
        due.answer("steps(4)", x.steps(4), 8);
        due.answer("steps(11)", x.steps(11), 9);
        due.answer("steps(15 * 2^40)", x.steps(15L << 40), 9);
        due.answer("steps(1) of x + 1 modulo x^2 + 1", stepped(5, 3, 1), 3);
        due.answer("steps(1) modulo x + 1", new ShiftSignatures().steps(1), 1);
    }

    private static void noSteps() {
        due.sentence("Promise 10: Many STEPS (none are 0)");
        due.answer("steps(0) of 1", stepped(19, 1, 0), 1);
        due.answer("steps(0) of 15", stepped(19, 15, 0), 15);
        due.answer("steps(0) of 0", stepped(19, 0, 0), 0);
        due.answer("steps(0) of 2^32 - 1", stepped(Made.WIDE, 0xFFFFFFFFL, 0), 0xFFFFFFFFL);
        due.answer("steps(0) modulo x + 1", stepped(3, 1, 0), 1);
    }

    private static void greatestSteps() {
        due.sentence("Promise 10: Many STEPS, however many");
        // 2^63 - 1 leaves 7 when divided by 15, and 9 is x^14.
        due.answer("steps(MAX) of 9", stepped(19, 9, Long.MAX_VALUE), 12);
        due.answer("steps(2^62) of 1", stepped(19, 1, 1L << 62), 3);
        due.answer("steps(MAX) where x^32 is 1", stepped(0x100000001L, 1, Long.MAX_VALUE), 1L << 31);
        // 2^32 - 1 steps are one round, and 2^63 - 1 leave 2^31 - 1 behind whole rounds.
        due.answer("steps(2^32 - 1) of degree 32", stepped(Made.WIDE, 77, 4294967295L), 77);
        due.answer(
                "steps(MAX) of degree 32",
                stepped(Made.WIDE, 1, Long.MAX_VALUE),
                stepped(Made.WIDE, 1, Integer.MAX_VALUE));
        due.answer("steps(MAX) modulo x + 1", stepped(3, 1, Long.MAX_VALUE), 1);
    }

    private static void stepsBelowZero() {
        due.sentence("Promise 10: IllegalArgument: many is below 0");
        due.badArgument("steps(-1)", Made::small, x -> x.steps(-1));
        due.badArgument("steps(MIN)", Made::small, x -> x.steps(Long.MIN_VALUE));
        due.badArgument("steps(-1) of a full object", Made::full, x -> x.steps(-1));
    }

    private static void channels() {
        due.sentence("Promise 11: A channel more: its number");
        ShiftSignatures x = Made.of(19);
        for (int c = 0; c < 8; c++) {
            due.answer("channel(" + (15 - c) + ")", x.channel(15 - c), c);
            due.answer("the faults with it", x.faults(0, 0), 2 * c + 2);
        }
        ShiftSignatures y = Made.of(19, 6);
        due.answer("channel(6) a second time", y.channel(6), 1);
        due.answer("channel(0)", y.channel(0), 2);
        y.load(2);
        due.answer("pattern() of the three", y.pattern(), 3);
    }

    private static void channelOfNoResidue() {
        due.sentence("Promise 11: IllegalArgument: the mask is no residue");
        for (long mask : new long[] {8, 24, 4294967296L, Long.MAX_VALUE, Long.MIN_VALUE, -1}) {
            due.badArgument("channel(" + mask + ")", Made::small, x -> x.channel(mask));
        }
        due.badArgument("channel(2^32)", () -> Made.of(Made.WIDE), x -> x.channel(4294967296L));
        due.answer("channel(2^32 - 1)", Made.of(Made.WIDE).channel(4294967295L), 0);
    }

    private static void ninthChannel() {
        due.sentence("Promise 11: IllegalState: there are 8");
        due.answer("channel 8 of 8", Made.of(19, 1, 2, 3, 4, 5, 6, 7).channel(8), 7);
        due.badState("channel(1) with 8", Made::eightChannels, x -> x.channel(1));
        due.badState("channel(0) with 8", Made::eightChannels, x -> x.channel(0));
        due.badState("channel(255) with 8 and a circuit", Made::full, x -> x.channel(255));
    }

    private static void patterns() {
        due.sentence("Promise 12: The PATTERN of the register as it is");
        ShiftSignatures x = Made.of(19, 8, 0, 11, 15);
        int[] bits = {0, 12, 12, 0, 8, 4, 4, 8, 13, 1, 1, 13, 5, 9, 9, 5};
        for (int v = 0; v < 16; v++) {
            x.load(v);
            due.answer("pattern() of " + v, x.pattern(), bits[v]);
            due.answer("pattern() of " + v + " again", x.pattern(), bits[v]);
        }
        due.answer("the register behind pattern()", x.steps(0), 15);
    }

    private static void patternOfNoChannels() {
        due.sentence("Promise 12: the sum of 2^c for all channels c (of none it is 0)");
        due.answer("pattern() of a new object", new ShiftSignatures().pattern(), 0);
        ShiftSignatures x = Made.of(Made.WIDE);
        x.load(0xFFFFFFFFL);
        due.answer("pattern() without channels", x.pattern(), 0);
    }

    private static void patternOfEightChannels() {
        due.sentence("Promise 12: the sum of 2^c for all channels c (of eight it is up to 255)");
        ShiftSignatures x = Made.eightChannels();
        for (int v = 0; v < 256; v += 5) {
            x.load(v);
            due.answer("pattern() of " + v, x.pattern(), v);
        }
        due.answer("load(1) behind 255", x.load(1), 255);
        ShiftSignatures wide = Made.of(Made.WIDE);
        wide.load(0xFFFFFFFFL);
        for (int c = 0; c < 8; c++) {
            wide.channel(0xFFFFFFFFL >> c);
        }
        due.answer("pattern() of 32 bits and fewer", wide.pattern(), 0xAA);
    }

    private static long stepped(long p, long start, long many) {
        ShiftSignatures x = Made.of(p);
        x.load(start);
        return x.steps(many);
    }
}
