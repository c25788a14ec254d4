import java.util.Random;
import java.util.function.LongSupplier;

/** Runs of calls, drawn by a fixed seed, on the program and on the reference side by side. */
public final class RandomRunsTest {
    private static final int RUNS = 600;
    /** All that an object is promised to answer. */
    private static final int CALLS = 512;
    private static final Due due = new Due();

    private final Random random;
    private final ShiftSignatures x = new ShiftSignatures();
    private final Reference r = new Reference();
    private final int run;
    private int calls;

    private RandomRunsTest(int run) {
        this.run = run;
        random = new Random(run);
    }

    public static void main(String[] args) {
        for (int run = 0; run < RUNS; run++) {
            new RandomRunsTest(run).go();
        }
        due.end();
    }

    private void go() {
        if (run % 3 != 0) {
            buildBigCircuit();
        }
        while (calls < CALLS) {
            int kind = random.nextInt(100);
            if (kind < 30) {
                reckon(kind);
            } else if (kind < 60) {
                build(kind);
            } else {
                test(kind);
            }
        }
    }

    private void buildBigCircuit() {
        tellPolynomial(polynomialOf(1 + random.nextInt(32)));
        int channels = 1 + random.nextInt(8);
        for (int c = 0; c < channels; c++) {
            tellChannel(random.nextLong() & ((1L << r.n) - 1));
        }
        int gates = random.nextInt(25);
        for (int g = 0; g < gates; g++) {
            tellGate(random.nextInt(6), random.nextInt(r.lines()), random.nextInt(r.lines()));
        }
        int outputs = random.nextInt(17);
        for (int i = 0; i < outputs; i++) {
            tellOutput(random.nextInt(r.lines()));
        }
    }

    private void reckon(int kind) {
        long a = aboutResidue();
        long b = aboutResidue();
        long e = random.nextInt(8) == 0 ? -1 - random.nextInt(3) : random.nextLong() >>> (1 + random.nextInt(63));
        if (kind < 5) {
            same("times(" + a + ", " + b + ")", () -> x.times(a, b), () -> r.times(a, b));
        } else if (kind < 9) {
            same("power(" + a + ", " + e + ")", () -> x.power(a, e), () -> r.power(a, e));
        } else if (kind < 13) {
            long any = random.nextLong() >>> random.nextInt(64);
            same("residue(" + any + ")", () -> x.residue(any), () -> r.residue(any));
        } else if (kind < 14) {
            same("irreducible()", () -> x.irreducible() ? 1 : 0, () -> r.irreducible() ? 1 : 0);
        } else if (kind < 15) {
            same("primitive()", () -> x.primitive() ? 1 : 0, () -> r.primitive() ? 1 : 0);
        } else if (kind < 16) {
            same("order()", x::order, r::order);
        } else if (kind < 22) {
            same("load(" + a + ")", () -> x.load(a), () -> r.load(a));
        } else if (kind < 27) {
            same("steps(" + e + ")", () -> x.steps(e), () -> r.steps(e));
        } else {
            same("pattern()", x::pattern, r::pattern);
        }
    }

    private void build(int kind) {
        if (kind == 30) {
            tellPolynomial(random.nextLong() >>> random.nextInt(64) | random.nextInt(8) / 2);
        } else if (kind == 31) {
            tellPolynomial(polynomialOf(1 + random.nextInt(6)));
        } else if (kind < 35) {
            tellChannel(aboutResidue());
        } else if (kind < 52) {
            tellGate(random.nextInt(7) - random.nextInt(2), aboutLine(), aboutLine());
        } else {
            tellOutput(aboutLine());
        }
    }

    private void test(int kind) {
        int m = aboutLength();
        int fault = random.nextInt(2 * r.lines() + 3) - 1 - random.nextInt(2) * random.nextInt(2);
        int pattern = random.nextInt();
        int what = random.nextInt(4) + random.nextInt(20) / 19 - random.nextInt(20) / 19;
        if (kind < 72) {
            same("answer(" + pattern + ", " + fault + ")", () -> x.answer(pattern, fault), () -> r.answer(pattern, fault));
        } else if (kind < 82) {
            same("session(" + m + ", " + fault + ")", () -> x.session(m, fault), () -> r.session(m, fault));
        } else if (kind < 90) {
            same("faults(" + m + ", " + what + ")", () -> x.faults(m, what), () -> r.faults(m, what));
        } else {
            same("first(" + m + ", " + fault + ")", () -> x.first(m, fault), () -> r.first(m, fault));
        }
    }

    private void tellPolynomial(long p) {
        same("polynomial(" + p + ")", () -> x.polynomial(p), () -> r.polynomial(p));
    }

    private void tellChannel(long mask) {
        same("channel(" + mask + ")", () -> x.channel(mask), () -> r.channel(mask));
    }

    private void tellGate(int kind, int a, int b) {
        same("gate(" + kind + ", " + a + ", " + b + ")", () -> x.gate(kind, a, b), () -> r.gate(kind, a, b));
    }

    private void tellOutput(int line) {
        same("output(" + line + ")", () -> x.output(line), () -> r.output(line));
    }

    private long polynomialOf(int degree) {
        long top = 1L << degree;
        return top | random.nextLong() & (top - 1) | 1;
    }

    private int aboutLength() {
        int[] edges = {-1, 0, 255, 256, 257, Integer.MAX_VALUE};
        return random.nextInt(6) == 0 ? edges[random.nextInt(edges.length)] : random.nextInt(1 + random.nextInt(40));
    }

    private long aboutResidue() {
        if (random.nextInt(12) == 0) {
            return random.nextBoolean() ? 1L << r.n : random.nextLong();
        }
        return random.nextLong() & ((1L << r.n) - 1);
    }

    private int aboutLine() {
        return random.nextInt(r.lines() + 2) - random.nextInt(20) / 19;
    }

    private void same(String call, LongSupplier program, LongSupplier reference) {
        calls++;
        String got = outcome(program);
        String want = outcome(reference);
        if (!got.equals(want)) {
            due.tell("run " + run + ": " + call + " answered " + got + ", due is " + want);
        }
    }

    private static String outcome(LongSupplier call) {
        try {
            return Long.toString(call.getAsLong());
        } catch (RuntimeException thrown) {
            return "throws." + thrown.getClass().getSimpleName();
        }
    }
}
