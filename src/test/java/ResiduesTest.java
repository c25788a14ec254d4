/** Promises 2 to 5, and what the terms say of polynomials and residues. */
public final class ResiduesTest {
    private static final Due due = new Due();

    public static void main(String[] args) {
        due.run(
                ResiduesTest::bitsOfLongs,
                ResiduesTest::addedWithoutCarry,
                ResiduesTest::lowestAndHighestDegree,
                ResiduesTest::residuesEndBelowTwoToTheN,
                ResiduesTest::polynomialIsTold,
                ResiduesTest::degreeTooLow,
                ResiduesTest::degreeTooHigh,
                ResiduesTest::bitZeroNotSet,
                ResiduesTest::products,
                ResiduesTest::productOfNoResidue,
                ResiduesTest::powers,
                ResiduesTest::powerZero,
                ResiduesTest::greatestPowers,
                ResiduesTest::powerOfNoResidue,
                ResiduesTest::powerBelowZero,
                ResiduesTest::residues,
                ResiduesTest::allSixtyFourBits);
    }

    private static void bitsOfLongs() {
        due.sentence("Terms: as longs bit k is that of x^k");
        for (int n = 1; n <= 32; n++) {
            ShiftSignatures x = Made.of((1L << n) + 1);
            // Where x^n is 1, x^k is x^(k mod n).
            for (int k = 0; k < 64; k++) {
                due.answer("residue(2^" + k + ") modulo x^" + n + " + 1", x.residue(1L << k), 1L << k % n);
            }
        }
    }

    private static void addedWithoutCarry() {
        due.sentence("Terms: coefficients 0 and 1, added without carry");
        ShiftSignatures x = Made.of(Made.WIDE);
        due.answer("times(3, 3)", x.times(3, 3), 5);
        due.answer("times(65535, 65535)", x.times(65535, 65535), 0x55555555L);
        due.answer("power(3, 16)", x.power(3, 16), 65537);
        due.answer("residue(-1) modulo x + 1", new ShiftSignatures().residue(-1), 0);
    }

    /** The last that may be at each end, and next to each of them one that may not. */
    private static void lowestAndHighestDegree() {
        due.sentence("Terms: THE POLYNOMIAL p has degree n, 1 .. 32, and bit 0 set");
        due.badArgument("polynomial(1), of degree 0", ShiftSignatures::new, x -> x.polynomial(1));
        due.badArgument("polynomial(2), without bit 0", ShiftSignatures::new, x -> x.polynomial(2));
        due.answer("polynomial(3), of degree 1", new ShiftSignatures().polynomial(3), 1);
        due.answer("polynomial(2^32 + 1), of degree 32", new ShiftSignatures().polynomial(0x100000001L), 32);
        due.badArgument("polynomial(2^33 - 2), without bit 0", ShiftSignatures::new, x -> x.polynomial(0x1FFFFFFFEL));
        due.answer("polynomial(2^33 - 1), of degree 32", new ShiftSignatures().polynomial(0x1FFFFFFFFL), 32);
        due.badArgument("polynomial(2^33 + 1), of degree 33", ShiftSignatures::new, x -> x.polynomial(0x200000001L));
    }

    /** Of each degree, and at each place where a residue is asked for. */
    private static void residuesEndBelowTwoToTheN() {
        due.sentence("Terms: RESIDUES are polynomials of degrees below n, 0 .. 2^n - 1");
        for (long p : Made.PRIMITIVE) {
            ShiftSignatures x = new ShiftSignatures();
            long over = 1L << x.polynomial(p);
            long last = over - 1;
            String modulo = " modulo " + p;
            due.answer("times(" + last + ", 1)" + modulo, x.times(last, 1), last);
            due.answer("times(1, " + last + ")" + modulo, x.times(1, last), last);
            due.answer("power(" + last + ", 1)" + modulo, x.power(last, 1), last);
            due.answer("load(" + last + ")" + modulo, x.load(last), 1);
            due.answer("steps(0) behind it" + modulo, x.steps(0), last);
            due.answer("channel(" + last + ")" + modulo, x.channel(last), 0);
            due.answer("times(0, 0)" + modulo, x.times(0, 0), 0);
            due.answer("power(0, 1)" + modulo, x.power(0, 1), 0);
            due.answer("load(0)" + modulo, x.load(0), last);
            due.answer("channel(0)" + modulo, x.channel(0), 1);
            for (long none : new long[] {over, -1}) {
                due.badArgument("times(" + none + ", 1)" + modulo, () -> Made.of(p), y -> y.times(none, 1));
                due.badArgument("times(1, " + none + ")" + modulo, () -> Made.of(p), y -> y.times(1, none));
                due.badArgument("power(" + none + ", 1)" + modulo, () -> Made.of(p), y -> y.power(none, 1));
                due.badArgument("load(" + none + ")" + modulo, () -> Made.of(p), y -> y.load(none));
                due.badArgument("channel(" + none + ")" + modulo, () -> Made.of(p), y -> y.channel(none));
            }
        }
    }

    private static void polynomialIsTold() {
        due.sentence("Promise 2: Tells p: its degree");
        ShiftSignatures x = new ShiftSignatures();
        for (int n = 1; n <= 32; n++) {
            due.answer("polynomial(x^" + n + " + 1)", x.polynomial((1L << n) + 1), n);
            due.answer("residue(x^" + n + ")", x.residue(1L << n), 1);
            due.answer("polynomial of " + (n + 1) + " ones", x.polynomial((2L << n) - 1), n);
            due.answer("residue(x^" + n + ")", x.residue(1L << n), (1L << n) - 1);
        }
        due.answer("the least, polynomial(3)", x.polynomial(3), 1);
        due.answer("the greatest, polynomial(2^33 - 1)", x.polynomial(8589934591L), 32);
    }

    private static void degreeTooLow() {
        due.sentence("Promise 2: IllegalArgument: the degree is not 1 ..");
        due.badArgument("polynomial(1)", Made::small, x -> x.polynomial(1));
        due.badArgument("polynomial(0)", Made::small, x -> x.polynomial(0));
        due.badArgument("polynomial(1) of a new object", ShiftSignatures::new, x -> x.polynomial(1));
    }

    private static void degreeTooHigh() {
        due.sentence("Promise 2: IllegalArgument: the degree is not .. 32");
        for (int n = 33; n <= 63; n++) {
            long least = (1L << n) + 1;
            long greatest = (1L << n) | ((1L << n) - 1);
            due.badArgument("polynomial(" + least + ")", Made::full, x -> x.polynomial(least));
            due.badArgument("polynomial(" + greatest + ")", Made::full, x -> x.polynomial(greatest));
        }
    }

    private static void bitZeroNotSet() {
        due.sentence("Promise 2: IllegalArgument: bit 0 is not set");
        for (int n = 1; n <= 32; n++) {
            long least = 1L << n;
            long greatest = (2L << n) - 2;
            due.badArgument("polynomial(" + least + ")", Made::full, x -> x.polynomial(least));
            due.badArgument("polynomial(" + greatest + ")", Made::full, x -> x.polynomial(greatest));
        }
    }

    private static void products() {
        due.sentence("Promise 3: The product of two residues, modulo p");
        ShiftSignatures x = Made.of(19);
        due.answer("times(9, 9)", x.times(9, 9), 13);
        due.answer("times(0, 15)", x.times(0, 15), 0);
        due.answer("times(15, 0)", x.times(15, 0), 0);
        due.answer("times(15, 1)", x.times(15, 1), 15);
        due.answer("times(8, 2)", x.times(8, 2), 3);
        due.answer("times(2, 8)", x.times(2, 8), 3);
        due.answer("the register behind them", x.steps(0), 1);
        ShiftSignatures wide = Made.of(Made.WIDE);
        due.answer("times(2^31, 2) of degree 32", wide.times(1L << 31, 2), 0x400007);
        // x^62 is x^52 + x^32 + x^31 + x^30, x^52 is x^42 + x^22 + x^21 + x^20, x^42 is x^32 + x^12 + x^11 + x^10.
        long twice = 3L << 30 | 7L << 20 | 7L << 10;
        due.answer("times(2^31, 2^31) of degree 32", wide.times(1L << 31, 1L << 31), twice);
        ShiftSignatures ring = Made.of(0x100000001L);
        due.answer("times(2^32 - 1, 2^32 - 1) where x^32 is 1", ring.times(0xFFFFFFFFL, 0xFFFFFFFFL), 0);
        due.answer("times(1, 1) modulo x + 1", new ShiftSignatures().times(1, 1), 1);
    }

    private static void productOfNoResidue() {
        due.sentence("Promise 3: IllegalArgument: one is none");
        long[] none = {16, 17, 4294967296L, Long.MAX_VALUE, Long.MIN_VALUE, -1};
        for (long a : none) {
            due.badArgument("times(" + a + ", 1)", () -> Made.of(19), x -> x.times(a, 1));
            due.badArgument("times(" + a + ", 0)", () -> Made.of(19), x -> x.times(a, 0));
            due.badArgument("times(1, " + a + ")", () -> Made.of(19), x -> x.times(1, a));
            due.badArgument("times(0, " + a + ")", () -> Made.of(19), x -> x.times(0, a));
            due.badArgument("times(" + a + ", " + a + ")", () -> Made.of(19), x -> x.times(a, a));
        }
    }

    private static void powers() {
        due.sentence("Promise 4: A residue to the power of e, modulo p");
        ShiftSignatures x = Made.of(19);
        due.answer("power(7, 1)", x.power(7, 1), 7);
        due.answer("power(0, 1)", x.power(0, 1), 0);
        due.answer("power(15, 1)", x.power(15, 1), 15);
        due.answer("power(9, 2)", x.power(9, 2), 13);
        due.answer("power(2, 14)", x.power(2, 14), 9);
        due.answer("power(2, 15)", x.power(2, 15), 1);
        due.answer("the register behind them", x.steps(0), 1);
    }

    private static void powerZero() {
        due.sentence("Promise 4: (1 for e = 0)");
        ShiftSignatures x = Made.of(19);
        for (long a = 0; a <= 15; a++) {
            due.answer("power(" + a + ", 0)", x.power(a, 0), 1);
        }
        due.answer("power(0, 0) modulo x + 1", new ShiftSignatures().power(0, 0), 1);
        due.answer("power(1, 0) modulo x + 1", new ShiftSignatures().power(1, 0), 1);
        due.answer("power(0, 0) of degree 32", Made.of(Made.WIDE).power(0, 0), 1);
        due.answer("power(2^32 - 1, 0) of degree 32", Made.of(Made.WIDE).power(0xFFFFFFFFL, 0), 1);
    }

    private static void greatestPowers() {
        due.sentence("Promise 4: to the power of e, however great");
        ShiftSignatures x = Made.of(19);
        due.answer("power(0, MAX)", x.power(0, Long.MAX_VALUE), 0);
        due.answer("power(1, MAX)", x.power(1, Long.MAX_VALUE), 1);
        // 2^63 - 1 leaves 7 when divided by 15, 2^62 leaves 4, and x^7 is x^3 + x + 1.
        due.answer("power(2, MAX)", x.power(2, Long.MAX_VALUE), 11);
        due.answer("power(2, 2^62)", x.power(2, 1L << 62), 3);
        ShiftSignatures ring = Made.of(0x100000001L);
        due.answer("power(2, MAX) where x^32 is 1", ring.power(2, Long.MAX_VALUE), 1L << 31);
        due.answer("power(1, MAX) modulo x + 1", new ShiftSignatures().power(1, Long.MAX_VALUE), 1);
    }

    private static void powerOfNoResidue() {
        due.sentence("Promise 4: IllegalArgument: a is no residue");
        for (long a : new long[] {16, 4294967296L, Long.MAX_VALUE, Long.MIN_VALUE, -1}) {
            due.badArgument("power(" + a + ", 1)", () -> Made.of(19), x -> x.power(a, 1));
            due.badArgument("power(" + a + ", 0)", () -> Made.of(19), x -> x.power(a, 0));
            due.badArgument("power(" + a + ", -1)", () -> Made.of(19), x -> x.power(a, -1));
        }
    }

    private static void powerBelowZero() {
        due.sentence("Promise 4: IllegalArgument: e below 0");
        for (long a : new long[] {0, 1, 2, 15}) {
            due.badArgument("power(" + a + ", -1)", () -> Made.of(19), x -> x.power(a, -1));
            due.badArgument("power(" + a + ", MIN)", () -> Made.of(19), x -> x.power(a, Long.MIN_VALUE));
        }
    }

    private static void residues() {
        due.sentence("Promise 5: What a polynomial leaves when divided by p");
        ShiftSignatures x = Made.of(19);
        due.answer("residue(0)", x.residue(0), 0);
        due.answer("residue(15)", x.residue(15), 15);
        due.answer("residue(16)", x.residue(16), 3);
        due.answer("residue(19)", x.residue(19), 0);
        due.answer("residue(256)", x.residue(256), 5);
        due.answer("the register behind them", x.steps(0), 1);
        ShiftSignatures wide = Made.of(Made.WIDE);
        due.answer("residue(2^32 - 1) of degree 32", wide.residue(0xFFFFFFFFL), 0xFFFFFFFFL);
        due.answer("residue(2^32) of degree 32", wide.residue(0x100000000L), 0x400007);
        due.answer("residue(p) of degree 32", wide.residue(Made.WIDE), 0);
    }

    private static void allSixtyFourBits() {
        due.sentence("Promise 5: (all 64 bits count)");
        ShiftSignatures x = new ShiftSignatures();
        due.answer("residue(2^63) modulo x + 1", x.residue(Long.MIN_VALUE), 1);
        due.answer("residue(-1) modulo x + 1", x.residue(-1), 0);
        due.answer("residue(MAX) modulo x + 1", x.residue(Long.MAX_VALUE), 1);
        due.answer("residue(-2) modulo x + 1", x.residue(-2), 1);
        for (long p : Made.PRIMITIVE) {
            ShiftSignatures y = new ShiftSignatures();
            int n = y.polynomial(p);
            long power = 1;
            long sum = 0;
            for (int k = 0; k < 64; k++) {
                due.answer("residue(2^" + k + ") modulo " + p, y.residue(1L << k), power);
                sum ^= power;
                power = power << 1 >> n == 1 ? power << 1 ^ p : power << 1;
            }
            due.answer("residue(-1) modulo " + p, y.residue(-1), sum);
        }
    }
}
