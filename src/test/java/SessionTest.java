/** Promises 16 to 18. */
public final class SessionTest {
    private static final Due due = new Due();

    public static void main(String[] args) {
        signatureByHand();
        wideAnswersAreReduced();
        sessionLeavesTheRegister();
        sessionIsRefused();
        faultsByHand();
        seenButNotFound();
        firstMissedByNumber();
        hiddenAfterOneRound();
        allSixtyFour();
        faultsIsRefused();
        firsts();
        firstIsRefused();
        due.end();
    }

    /** The register goes 1, 2, 4, 3, 6, 7, 5 modulo x^3 + x + 1; the only line is its bit 0. */
    private static void signatureByHand() {
        ShiftSignatures x = new ShiftSignatures();
        x.polynomial(11);
        x.channel(1);
        x.output(0);
        // The answers are 1, 0, 0, 1, 0, 1, 1, and from there on the same again.
        long[] signatures = {0, 1, 2, 4, 2, 4, 2, 5, 0, 0, 0, 1};
        for (int m = 0; m < signatures.length; m++) {
            due.answer("session(" + m + ", NONE)", x.session(m, -1), signatures[m]);
        }
        due.answer("session(3, 0)", x.session(3, 0), 0);
        due.answer("session(3, 1)", x.session(3, 1), 7);
        due.answer("session(7, 1)", x.session(7, 1), 0);
        due.answer("session(0, 1)", x.session(0, 1), 0);
        due.answer("session(256, 0)", x.session(256, 0), 0);
        // 256 ones are 36 times seven, which leave 0, and 1 + x + x^2 + x^3 more: 7 + 3.
        due.answer("session(256, 1)", x.session(256, 1), 4);
    }

    private static void wideAnswersAreReduced() {
        ShiftSignatures x = new ShiftSignatures();
        x.polynomial(11);
        x.channel(1);
        x.gate(ShiftSignatures.NOT, 0, 0);
        for (int i = 0; i < 16; i++) {
            x.output(i < 10 ? 0 : 1);
        }
        // At first line 0 is 1: 2^10 - 1 is the sum of x^0 .. x^9, which leaves 1 + x + x^2.
        due.answer("session(1, NONE)", x.session(1, -1), 7);
        // Then line 1 is 1: x^10 to x^15 are x^3 to x^8, all of seven but x^2: 4; and 7 times x is 5.
        due.answer("session(2, NONE)", x.session(2, -1), 1);
        x.polynomial(4299161607L);
        x.channel(1);
        for (int i = 0; i < 16; i++) {
            x.output(0);
        }
        due.answer("session(1, NONE) of degree 32", x.session(1, -1), 65535);
        due.answer("session(17, NONE) of degree 32", x.session(17, -1), 65535L << 16);
    }

    private static void sessionLeavesTheRegister() {
        ShiftSignatures x = new ShiftSignatures();
        x.polynomial(11);
        x.channel(1);
        x.output(0);
        x.load(3);
        due.answer("session(1, NONE) of register 3", x.session(1, -1), 1);
        due.answer("session(4, NONE) of register 3", x.session(4, -1), 0);
        x.faults(5, 1);
        x.first(5, 0);
        due.answer("the register behind them", x.steps(0), 3);
        x.load(0);
        due.answer("session(9, NONE) of register 0", x.session(9, -1), 0);
        due.answer("session(1, 1) of register 0", x.session(1, 1), 1);
    }

    private static void sessionIsRefused() {
        ShiftSignatures x = small();
        for (int m : new int[] {-1, 257, Integer.MAX_VALUE, Integer.MIN_VALUE}) {
            due.refusal("session(" + m + ", NONE)", x, IllegalArgumentException.class, () -> x.session(m, -1));
            due.refusal("session(" + m + ", 0)", x, IllegalArgumentException.class, () -> x.session(m, 0));
            due.refusal("session(" + m + ", 6)", x, IndexOutOfBoundsException.class, () -> x.session(m, 6));
            due.refusal("session(" + m + ", -2)", x, IndexOutOfBoundsException.class, () -> x.session(m, -2));
        }
        for (int fault : new int[] {6, 7, Integer.MAX_VALUE, -2, Integer.MIN_VALUE}) {
            due.refusal("session(1, " + fault + ")", x, IndexOutOfBoundsException.class, () -> x.session(1, fault));
            due.refusal("session(0, " + fault + ")", x, IndexOutOfBoundsException.class, () -> x.session(0, fault));
        }
    }

    /** The patterns are 1, 2, 0, 3, 2, 3, 1, and the answers 0, 0, 0, 1, 0, 1, 0. */
    private static void faultsByHand() {
        ShiftSignatures x = small();
        due.answer("faults(0, 0)", x.faults(0, 0), 6);
        due.answer("faults(0, 1)", x.faults(0, 1), 0);
        due.answer("faults(0, 2)", x.faults(0, 2), 0);
        due.answer("faults(0, 3)", x.faults(0, 3), -1);
        // Pattern 1 shows line 1 and line 2 stuck at 1; pattern 2 shows line 0 stuck at 1, too.
        due.answer("faults(1, 1)", x.faults(1, 1), 2);
        due.answer("faults(2, 1)", x.faults(2, 1), 3);
        due.answer("faults(3, 1)", x.faults(3, 1), 3);
        due.answer("faults(4, 1)", x.faults(4, 1), 6);
        due.answer("faults(1, 2)", x.faults(1, 2), 2);
        due.answer("faults(4, 2)", x.faults(4, 2), 6);
        due.answer("faults(4, 3)", x.faults(4, 3), -1);
        due.answer("faults(4, 0)", x.faults(4, 0), 6);
    }

    /** Modulo x + 1 the signature is the parity of the answers, so that two wrong ones hide. */
    private static void seenButNotFound() {
        ShiftSignatures x = new ShiftSignatures();
        x.channel(1);
        x.output(0);
        due.answer("faults(1, 3) modulo x + 1", x.faults(1, 3), -1);
        due.answer("faults(2, 1) modulo x + 1", x.faults(2, 1), 1);
        due.answer("faults(2, 2) modulo x + 1", x.faults(2, 2), 0);
        due.answer("faults(2, 3) modulo x + 1", x.faults(2, 3), 0);
        due.answer("faults(3, 2) modulo x + 1", x.faults(3, 2), 1);
        due.answer("faults(256, 3) modulo x + 1", x.faults(256, 3), 0);
        x.load(0);
        due.answer("faults(2, 1) of register 0", x.faults(2, 1), 1);
        due.answer("faults(2, 3) of register 0", x.faults(2, 3), 1);
    }

    /** Line 0 hides stuck at 1, line 1 stuck at 0: the first by number is 1, though it is stuck at 1. */
    private static void firstMissedByNumber() {
        ShiftSignatures x = new ShiftSignatures();
        x.load(0);
        x.channel(1);
        x.gate(ShiftSignatures.NOT, 0, 0);
        x.output(0);
        x.output(1);
        due.answer("faults(2, 1)", x.faults(2, 1), 2);
        due.answer("faults(2, 2)", x.faults(2, 2), 0);
        due.answer("faults(2, 3)", x.faults(2, 3), 1);
    }

    /** Where x^32 is 1, what is wrong at pattern t is made good by the same wrong at pattern t + 32. */
    private static void hiddenAfterOneRound() {
        ShiftSignatures x = new ShiftSignatures();
        x.polynomial(4294967297L);
        x.channel(1);
        x.output(0);
        int[][] seenFoundMissed = {
            {1, 1, 1, -1}, {2, 2, 2, -1}, {32, 2, 2, -1}, {33, 2, 1, 0}, {63, 2, 1, 0}, {64, 2, 0, 0},
            {65, 2, 1, 1}, {66, 2, 2, -1}, {128, 2, 0, 0}, {255, 2, 1, 0}, {256, 2, 0, 0}
        };
        for (int[] row : seenFoundMissed) {
            for (int what = 1; what <= 3; what++) {
                due.answer("faults(" + row[0] + ", " + what + ") where x^32 is 1", x.faults(row[0], what), row[what]);
            }
        }
        // As in signatureByHand: the signatures of 8, 9 and 10 patterns are 0, as if all answers were 0.
        x.polynomial(11);
        x.channel(1);
        x.output(0);
        due.answer("faults(7, 3) where x^7 is 1", x.faults(7, 3), -1);
        due.answer("faults(8, 3) where x^7 is 1", x.faults(8, 3), 0);
        due.answer("faults(8, 2) where x^7 is 1", x.faults(8, 2), 1);
        due.answer("faults(10, 3) where x^7 is 1", x.faults(10, 3), 0);
        due.answer("faults(11, 3) where x^7 is 1", x.faults(11, 3), -1);
    }

    private static void allSixtyFour() {
        ShiftSignatures x = new ShiftSignatures();
        x.polynomial(0x11D);
        for (int c = 0; c < 8; c++) {
            x.channel(1 << c);
        }
        for (int g = 0; g < 24; g++) {
            x.gate(ShiftSignatures.NOT, g, 0);
        }
        for (int i = 0; i < 8; i++) {
            x.output(24 + i);
        }
        due.answer("faults(256, 0) of 32 lines", x.faults(256, 0), 64);
        due.answer("faults(255, 1) of 32 lines", x.faults(255, 1), 64);
        due.answer("faults(1, 1) of 32 lines", x.faults(1, 1), 32);
        due.answer("faults(1, 2) of 32 lines", x.faults(1, 2), 32);
        due.answer("first(256, 63)", x.first(256, 63), 7);
        due.answer("first(256, 62)", x.first(256, 62), 0);
    }

    private static void faultsIsRefused() {
        ShiftSignatures x = small();
        for (int what : new int[] {-1, 4, Integer.MAX_VALUE, Integer.MIN_VALUE}) {
            due.refusal("faults(1, " + what + ")", x, IndexOutOfBoundsException.class, () -> x.faults(1, what));
            due.refusal("faults(257, " + what + ")", x, IndexOutOfBoundsException.class, () -> x.faults(257, what));
        }
        for (int what = 0; what <= 3; what++) {
            int w = what;
            due.refusal("faults(257, " + w + ")", x, IllegalArgumentException.class, () -> x.faults(257, w));
            due.refusal("faults(-1, " + w + ")", x, IllegalArgumentException.class, () -> x.faults(-1, w));
        }
    }

    private static void firsts() {
        ShiftSignatures x = small();
        int[] at = {3, 1, 3, 0, 3, 0};
        for (int fault = 0; fault < 6; fault++) {
            for (int m : new int[] {0, 1, 2, 3, 4, 7, 256}) {
                int want = at[fault] < m ? at[fault] : -1;
                due.answer("first(" + m + ", " + fault + ")", x.first(m, fault), want);
            }
        }
        x.load(0);
        due.answer("first(256, 0) of register 0", x.first(256, 0), -1);
        due.answer("first(256, 5) of register 0", x.first(256, 5), 0);
    }

    private static void firstIsRefused() {
        ShiftSignatures x = small();
        // NONE is no fault: the document lets answer and session have "none", but not first.
        for (int fault : new int[] {6, 7, Integer.MAX_VALUE, -1, -2, Integer.MIN_VALUE}) {
            due.refusal("first(7, " + fault + ")", x, IndexOutOfBoundsException.class, () -> x.first(7, fault));
            due.refusal("first(257, " + fault + ")", x, IndexOutOfBoundsException.class, () -> x.first(257, fault));
        }
        for (int m : new int[] {-1, 257, Integer.MAX_VALUE, Integer.MIN_VALUE}) {
            due.refusal("first(" + m + ", 0)", x, IllegalArgumentException.class, () -> x.first(m, 0));
        }
    }

    /** The bits 0 and 1 of the register modulo x^3 + x + 1, and an AND of them that is the output. */
    private static ShiftSignatures small() {
        ShiftSignatures x = new ShiftSignatures();
        x.polynomial(11);
        x.channel(1);
        x.channel(2);
        x.gate(ShiftSignatures.AND, 0, 1);
        x.output(2);
        return x;
    }
}
