import java.util.function.IntSupplier;

/** All of an object's state that calls can show, as a text. The object is used up by it. */
final class State {
    private static final int[] PATTERNS = {0, -1, 0x5A};

    private State() {
    }

    /** Some 380 calls at most, so that an object made by some hundred others can still be asked. */
    static String of(ShiftSignatures x) {
        StringBuilder text = new StringBuilder();
        int degree = tellPolynomial(x, text);
        tellSessions(x, text);
        tellAnswers(x, text);
        tellRegisterAndMasks(x, degree, text);
        tellCounts(x, text);
        return text.toString();
    }

    /** x^n is the first power of x that leaves another one than itself, and it leaves the rest of p. */
    private static int tellPolynomial(ShiftSignatures x, StringBuilder text) {
        int n = 1;
        while (n < 33 && x.residue(1L << n) == 1L << n) {
            n++;
        }
        text.append("degree ").append(n).append(", x^n leaves ").append(x.residue(1L << n));
        return n;
    }

    private static void tellSessions(ShiftSignatures x, StringBuilder text) {
        text.append("; sessions ").append(x.session(1, -1)).append(' ').append(x.session(256, -1));
        for (int what = 0; what <= 3; what++) {
            text.append(' ').append(x.faults(256, what));
        }
    }

    private static void tellAnswers(ShiftSignatures x, StringBuilder text) {
        text.append("; answers");
        for (int c = 0; c < 8; c++) {
            text.append(' ').append(x.answer(1 << c, -1));
        }
        int faults = x.faults(0, 0);
        for (int fault = -1; fault < faults; fault++) {
            for (int pattern : PATTERNS) {
                text.append(' ').append(x.answer(pattern, fault));
            }
        }
    }

    private static void tellRegisterAndMasks(ShiftSignatures x, int degree, StringBuilder text) {
        text.append("; register ").append(x.load(0)).append("; masks by bits");
        for (int k = 0; k < degree; k++) {
            x.load(1L << k);
            text.append(' ').append(x.pattern());
        }
    }

    /** A channel drops the circuit, so it comes last. */
    private static void tellCounts(ShiftSignatures x, StringBuilder text) {
        text.append("; next ").append(outcome(() -> x.gate(5, 0, 0)));
        text.append(' ').append(outcome(() -> x.output(0)));
        text.append(' ').append(outcome(() -> x.channel(0)));
    }

    private static String outcome(IntSupplier call) {
        try {
            return Integer.toString(call.getAsInt());
        } catch (RuntimeException thrown) {
            return thrown.getClass().getSimpleName();
        }
    }
}
