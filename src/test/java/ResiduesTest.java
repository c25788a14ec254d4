/** Promises 2 to 5. */
public final class ResiduesTest {
    private static final Due due = new Due();

    public static void main(String[] args) {
        polynomialIsTold();
        polynomialIsRefused();
        polynomialStartsAnew();
        products();
        powers();
        residues();
        due.end();
    }

    private static void polynomialIsTold() {
        ShiftSignatures x = new ShiftSignatures();
        for (int n = 1; n <= 32; n++) {
            due.answer("polynomial(x^" + n + " + 1)", x.polynomial((1L << n) + 1), n);
            due.answer("residue(x^" + n + ")", x.residue(1L << n), 1);
            due.answer("polynomial of " + (n + 1) + " ones", x.polynomial((2L << n) - 1), n);
            due.answer("residue(x^" + n + ")", x.residue(1L << n), (1L << n) - 1);
        }
    }

    private static void polynomialIsRefused() {
        ShiftSignatures x = filled();
        long[] none = {
            0, 1, 2, 4, 6, 18, 4294967296L, 4294967298L, 8589934591L - 1, 8589934592L, 8589934593L,
            17179869183L, Long.MAX_VALUE, Long.MIN_VALUE, Long.MIN_VALUE + 1, -1, -2
        };
        for (long p : none) {
            due.refusal("polynomial(" + p + ")", x, IllegalArgumentException.class, () -> x.polynomial(p));
        }
    }

    private static void polynomialStartsAnew() {
        ShiftSignatures x = filled();
        due.answer("polynomial(19) told again", x.polynomial(19), 4);
        due.answer("the register behind it", x.steps(0), 1);
        due.answer("the pattern behind it", x.pattern(), 0);
        due.answer("the faults behind it", x.faults(9, 0), 0);
        due.answer("the answer behind it", x.answer(-1, -1), 0);
        due.answer("the first channel behind it", x.channel(1), 0);
        due.answer("the answer with a channel", x.answer(-1, -1), 0);
        due.answer("the first gate behind it", x.gate(ShiftSignatures.NOT, 0, 0), 1);
        due.answer("the first output behind it", x.output(1), 0);
    }

    private static void products() {
        ShiftSignatures x = new ShiftSignatures();
        x.polynomial(19);
        due.answer("times(9, 9)", x.times(9, 9), 13);
        due.answer("times(0, 15)", x.times(0, 15), 0);
        due.answer("times(15, 1)", x.times(15, 1), 15);
        due.answer("times(8, 2)", x.times(8, 2), 3);
        long[] none = {16, 17, 4294967296L, Long.MAX_VALUE, Long.MIN_VALUE, -1};
        for (long a : none) {
            due.refusal("times(" + a + ", 1)", x, IllegalArgumentException.class, () -> x.times(a, 1));
            due.refusal("times(1, " + a + ")", x, IllegalArgumentException.class, () -> x.times(1, a));
            due.refusal("times(0, " + a + ")", x, IllegalArgumentException.class, () -> x.times(0, a));
        }
        x.polynomial(4299161607L);
        due.answer("times(2^31, 2)", x.times(1L << 31, 2), 4194311);
        due.answer("times(2^32 - 1, 1)", x.times(4294967295L, 1), 4294967295L);
        due.refusal("times(2^32, 1)", x, IllegalArgumentException.class, () -> x.times(4294967296L, 1));
        x.polynomial(3);
        due.answer("times(1, 1) modulo x + 1", x.times(1, 1), 1);
        due.refusal("times(1, 2) modulo x + 1", x, IllegalArgumentException.class, () -> x.times(1, 2));
    }

    private static void powers() {
        ShiftSignatures x = new ShiftSignatures();
        x.polynomial(19);
        due.answer("power(0, 0)", x.power(0, 0), 1);
        due.answer("power(7, 0)", x.power(7, 0), 1);
        due.answer("power(7, 1)", x.power(7, 1), 7);
        due.answer("power(0, 1)", x.power(0, 1), 0);
        due.answer("power(0, MAX)", x.power(0, Long.MAX_VALUE), 0);
        due.answer("power(2, 14)", x.power(2, 14), 9);
        due.answer("power(2, 15)", x.power(2, 15), 1);
        // 2^63 - 1 leaves 7 when divided by 15, and x^7 is x^3 + x + 1.
        due.answer("power(2, MAX)", x.power(2, Long.MAX_VALUE), 11);
        due.refusal("power(16, 1)", x, IllegalArgumentException.class, () -> x.power(16, 1));
        due.refusal("power(16, 0)", x, IllegalArgumentException.class, () -> x.power(16, 0));
        due.refusal("power(-1, 1)", x, IllegalArgumentException.class, () -> x.power(-1, 1));
        due.refusal("power(2, -1)", x, IllegalArgumentException.class, () -> x.power(2, -1));
        due.refusal("power(2, MIN)", x, IllegalArgumentException.class, () -> x.power(2, Long.MIN_VALUE));
        due.answer("the register behind all that", x.steps(0), 1);
    }

    private static void residues() {
        ShiftSignatures x = new ShiftSignatures();
        due.answer("residue(2^63) modulo x + 1", x.residue(Long.MIN_VALUE), 1);
        due.answer("residue(-1) modulo x + 1", x.residue(-1), 0);
        due.answer("residue(MAX) modulo x + 1", x.residue(Long.MAX_VALUE), 1);
        x.polynomial(19);
        due.answer("residue(0)", x.residue(0), 0);
        due.answer("residue(15)", x.residue(15), 15);
        due.answer("residue(16)", x.residue(16), 3);
        due.answer("residue(256)", x.residue(256), 5);
        // x^63 is x^3 where x^15 is 1.
        due.answer("residue(2^63)", x.residue(Long.MIN_VALUE), 8);
        x.polynomial(4294967297L);
        due.answer("residue(-1) modulo x^32 + 1", x.residue(-1), 0);
        due.answer("residue(2^63 + 5) modulo x^32 + 1", x.residue(Long.MIN_VALUE + 5), (1L << 31) + 5);
    }

    private static ShiftSignatures filled() {
        ShiftSignatures x = new ShiftSignatures();
        x.polynomial(19);
        x.load(6);
        x.channel(15);
        x.channel(4);
        x.gate(ShiftSignatures.NAND, 0, 1);
        x.output(2);
        x.output(0);
        return x;
    }
}
