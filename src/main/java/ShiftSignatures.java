/**
 * Self-test of circuits: patterns from a shift register with feedback by a polynomial go through a
 * circuit, and its answers are pressed into a signature by the same polynomial.
 */
public final class ShiftSignatures {
    public static final int AND = 0;
    public static final int OR = 1;
    public static final int XOR = 2;
    public static final int NAND = 3;
    public static final int NOR = 4;
    public static final int NOT = 5;
    public static final int NONE = -1;

    private static final int BITS = 64;
    private static final int MAX_DEGREE = 32;
    private static final int MAX_ORDER_DEGREE = 18;
    private static final int MAX_CHANNELS = 8;
    private static final int MAX_GATES = 24;
    private static final int MAX_LINES = MAX_CHANNELS + MAX_GATES;
    private static final int MAX_OUTPUTS = 16;
    private static final int MAX_PATTERNS = 256;

    private static final int HOW_MANY = 0;
    private static final int HOW_MANY_SEEN = 1;
    private static final int HOW_MANY_FOUND = 2;
    private static final int FIRST_MISSED = 3;

    private final Modulus modulus;
    private final Circuit circuit;
    private final Differences differences;
    private final long[] masks;
    private long register;

    public ShiftSignatures() {
        modulus = new Modulus();
        circuit = new Circuit();
        differences = new Differences();
        masks = new long[MAX_CHANNELS];
        register = 1;
    }

    public int polynomial(long p) throws IllegalArgumentException {
        int degree = Modulus.degreeOf(p);
        if (degree < 1 || degree > MAX_DEGREE || (p & 1) == 0) {
            throw new IllegalArgumentException("the degree is not 1 .. 32, or bit 0 is not set");
        }
        modulus.become(p);
        register = 1;
        circuit.restart(0);
        return degree;
    }

    public long times(long a, long b) throws IllegalArgumentException {
        requireResidue(a);
        requireResidue(b);
        return modulus.product(a, b);
    }

    public long power(long a, long e) throws IllegalArgumentException {
        requireResidue(a);
        requireNotNegative(e);
        return modulus.raised(a, e);
    }

    public long residue(long a) {
        return modulus.reduced(a);
    }

    public boolean irreducible() {
        return modulus.isIrreducible();
    }

    public boolean primitive() {
        return modulus.isPrimitive();
    }

    public long order() {
        if (modulus.degree > MAX_ORDER_DEGREE) {
            return NONE;
        }
        return modulus.orderWithin(modulus.multipleOfOrder());
    }

    public long load(long v) throws IllegalArgumentException {
        requireResidue(v);
        long before = register;
        register = v;
        return before;
    }

    public long steps(long many) throws IllegalArgumentException {
        requireNotNegative(many);
        register = modulus.product(register, modulus.raised(modulus.x, many));
        return register;
    }

    public int channel(long mask) throws IllegalArgumentException, IllegalStateException {
        requireResidue(mask);
        int number = circuit.channelCount;
        if (number >= MAX_CHANNELS) {
            throw new IllegalStateException("there are 8 channels");
        }
        masks[number] = mask;
        circuit.restart(number + 1);
        return number;
    }

    public int pattern() {
        return patternOf(register);
    }

    public int gate(int kind, int a, int b)
            throws IllegalArgumentException, IndexOutOfBoundsException, IllegalStateException {
        if (kind < AND || kind > NOT) {
            throw new IllegalArgumentException("the kind is not 0 .. 5");
        }
        requireLine(a);
        // A NOT has no second line: whatever stands there is not looked at.
        int second = kind == NOT ? a : b;
        requireLine(second);
        if (circuit.gateCount >= MAX_GATES) {
            throw new IllegalStateException("there are 24 gates");
        }
        return circuit.addGate(kind, a, second);
    }

    public int output(int line) throws IndexOutOfBoundsException, IllegalStateException {
        requireLine(line);
        if (circuit.outputCount >= MAX_OUTPUTS) {
            throw new IllegalStateException("there are 16 outputs");
        }
        return circuit.addOutput(line);
    }

    public int answer(int pattern, int fault) throws IndexOutOfBoundsException {
        requireFaultOrNone(fault);
        return circuit.answerTo(pattern, fault);
    }

    public long session(int m, int fault) throws IndexOutOfBoundsException, IllegalArgumentException {
        requireFaultOrNone(fault);
        requirePatterns(m);
        long copy = register;
        long signature = 0;
        for (int t = 0; t < m; t++) {
            int given = circuit.answerTo(patternOf(copy), fault);
            signature = modulus.stepped(signature) ^ modulus.reduced(given);
            copy = modulus.stepped(copy);
        }
        return signature;
    }

    public int faults(int m, int what) throws IndexOutOfBoundsException, IllegalArgumentException {
        if (what < HOW_MANY || what > FIRST_MISSED) {
            throw new IndexOutOfBoundsException("what is not 0 .. 3");
        }
        requirePatterns(m);
        if (what == HOW_MANY) {
            return circuit.countFaults();
        }
        compareAllFaults(m);
        if (what == HOW_MANY_SEEN) {
            return Long.bitCount(differences.seen);
        }
        long found = differences.found();
        return what == HOW_MANY_FOUND ? Long.bitCount(found) : lowestBit(differences.seen & ~found);
    }

    public int first(int m, int fault) throws IndexOutOfBoundsException, IllegalArgumentException {
        requireFault(fault);
        requirePatterns(m);
        long copy = register;
        for (int t = 0; t < m; t++) {
            int given = patternOf(copy);
            if (circuit.answerTo(given, fault) != circuit.answerTo(given, NONE)) {
                return t;
            }
            copy = modulus.stepped(copy);
        }
        return NONE;
    }

    private void requireResidue(long a) {
        if (!modulus.hasResidue(a)) {
            throw new IllegalArgumentException("no residue");
        }
    }

    private void requireNotNegative(long many) {
        if (many < 0) {
            throw new IllegalArgumentException("below 0");
        }
    }

    private void requirePatterns(int m) {
        if (m < 0 || m > MAX_PATTERNS) {
            throw new IllegalArgumentException("m is not 0 .. 256");
        }
    }

    private void requireLine(int line) {
        if (line < 0 || line >= circuit.countLines()) {
            throw new IndexOutOfBoundsException("there is no such line");
        }
    }

    private void requireFault(int fault) {
        if (fault < 0 || fault >= circuit.countFaults()) {
            throw new IndexOutOfBoundsException("there is no such fault");
        }
    }

    private void requireFaultOrNone(int fault) {
        if (fault != NONE) {
            requireFault(fault);
        }
    }

    private int patternOf(long held) {
        int bits = 0;
        for (int c = 0; c < circuit.channelCount; c++) {
            bits |= (Long.bitCount(held & masks[c]) & 1) << c;
        }
        return bits;
    }

    /** A session of m patterns for all faults at once, beside the one without a fault. */
    private void compareAllFaults(int m) {
        differences.clear();
        long copy = register;
        for (int t = 0; t < m; t++) {
            differences.timesX();
            differences.addAnswers(circuit, patternOf(copy));
            differences.reduce(modulus);
            copy = modulus.stepped(copy);
        }
    }

    private static int lowestBit(long bits) {
        return bits == 0 ? NONE : Long.numberOfTrailingZeros(bits);
    }

    /** The polynomial p, and reckoning with residues modulo it. */
    private static final class Modulus {
        /** 2, and all primes that divide 2^n - 1 for some n of 1 .. 32. */
        private static final long[] PRIMES = {
            2, 3, 5, 7, 11, 13, 17, 19, 23, 29, 31, 41, 43, 47, 73, 89, 113, 127, 151, 233, 241, 257,
            331, 337, 601, 683, 1103, 1801, 2089, 2731, 8191, 65537, 131071, 178481, 262657, 524287,
            2147483647
        };
        /** A power of 2 that is no less than 18, for the factors that p has more than once. */
        private static final long REPEATS = 32;

        private long p;
        private int degree;
        /** The residue of x, which is 1, not 2, where the degree is 1. */
        private long x;

        private Modulus() {
            p = 3;
            degree = 1;
            x = 1;
        }

        private void become(long polynomial) {
            p = polynomial;
            degree = degreeOf(polynomial);
            x = reduced(2);
        }

        private boolean hasResidue(long a) {
            return a >>> degree == 0;
        }

        private long reduced(long a) {
            return remainder(a, p);
        }

        private long stepped(long a) {
            long shifted = a << 1;
            return (shifted >>> degree & 1) == 0 ? shifted : shifted ^ p;
        }

        private long product(long a, long b) {
            long sum = 0;
            for (int k = degree - 1; k >= 0; k--) {
                sum = stepped(sum);
                if ((b >>> k & 1) == 1) {
                    sum ^= a;
                }
            }
            return sum;
        }

        private long raised(long a, long e) {
            long result = 1;
            long square = a;
            for (int k = 0; k < BITS && e >>> k != 0; k++) {
                if ((e >>> k & 1) == 1) {
                    result = product(result, square);
                }
                square = product(square, square);
            }
            return result;
        }

        /**
         * x^(2^d) + x is the product of all irreducible polynomials whose degrees divide d, and a p that
         * is reducible has a factor of at most half its degree.
         */
        private boolean isIrreducible() {
            long power = x;
            for (int d = 1; 2 * d <= degree; d++) {
                power = product(power, power);
                if (commonDivisor(p, power ^ x) != 1) {
                    return false;
                }
            }
            return true;
        }

        private boolean isPrimitive() {
            long all = (1L << degree) - 1;
            return raised(x, all) == 1 && orderWithin(all) == all;
        }

        /**
         * The order divides the product of 2^d - 1 for the degrees d of p's irreducible factors, times
         * a power of 2 that is no less than the times that one of them comes. For degrees of at most 18,
         * whose factors come at most 18 times.
         */
        private long multipleOfOrder() {
            long multiple = REPEATS;
            long rest = p;
            long power = x;
            for (int d = 1; d <= degree; d++) {
                power = product(power, power);
                long factors = commonDivisor(rest, power ^ x);
                if (factors != 1) {
                    multiple *= (1L << d) - 1;
                    rest = without(rest, factors);
                }
            }
            return multiple;
        }

        /** The order of x, from a multiple of it that has no prime factors but those of the table. */
        private long orderWithin(long multiple) {
            long least = multiple;
            for (long prime : PRIMES) {
                least = withoutNeedless(least, prime);
            }
            return least;
        }

        private long withoutNeedless(long multiple, long prime) {
            long least = multiple;
            for (int k = 0; k < BITS && prime > 1 && least % prime == 0; k++) {
                long less = least / prime;
                if (raised(x, less) != 1) {
                    break;
                }
                least = less;
            }
            return least;
        }

        /** -1 for 0. */
        private static int degreeOf(long a) {
            return BITS - 1 - Long.numberOfLeadingZeros(a);
        }

        private static long remainder(long a, long b) {
            int low = degreeOf(b);
            long rest = a;
            for (int k = degreeOf(a); k >= low; k--) {
                if ((rest >>> k & 1) == 1) {
                    rest ^= b << (k - low);
                }
            }
            return rest;
        }

        private static long quotient(long a, long b) {
            int low = degreeOf(b);
            long rest = a;
            long whole = 0;
            for (int k = degreeOf(a); k >= low; k--) {
                if ((rest >>> k & 1) == 1) {
                    rest ^= b << (k - low);
                    whole |= 1L << (k - low);
                }
            }
            return whole;
        }

        private static long commonDivisor(long a, long b) {
            long divided = a;
            long divisor = b;
            // The divisor's degree falls each time, so that the count never ends it.
            for (int k = 0; k <= BITS && divisor != 0; k++) {
                long rest = remainder(divided, divisor);
                divided = divisor;
                divisor = rest;
            }
            return divided;
        }

        /** What is left of a when all that it shares with b, as often as it does, is divided out. */
        private static long without(long a, long b) {
            long rest = a;
            long shared = commonDivisor(rest, b);
            for (int k = 0; k < BITS && shared != 1; k++) {
                rest = quotient(rest, shared);
                shared = commonDivisor(rest, shared);
            }
            return rest;
        }
    }

    /**
     * Lines, gates and outputs. There are at most 64 faults, so a line's values are held as one long:
     * bit f is its value with fault f, and one walk over the lines serves all faults.
     */
    private static final class Circuit {
        private final int[] kinds;
        private final int[] lefts;
        private final int[] rights;
        private final int[] outputLines;
        private final long[] values;
        private int channelCount;
        private int gateCount;
        private int outputCount;

        private Circuit() {
            kinds = new int[MAX_GATES];
            lefts = new int[MAX_GATES];
            rights = new int[MAX_GATES];
            outputLines = new int[MAX_OUTPUTS];
            values = new long[MAX_LINES];
        }

        private void restart(int channels) {
            channelCount = channels;
            gateCount = 0;
            outputCount = 0;
        }

        private int countLines() {
            return channelCount + gateCount;
        }

        private int countFaults() {
            return 2 * countLines();
        }

        private int addGate(int kind, int a, int b) {
            int line = countLines();
            kinds[gateCount] = kind;
            lefts[gateCount] = a;
            rights[gateCount] = b;
            gateCount++;
            return line;
        }

        private int addOutput(int line) {
            outputLines[outputCount] = line;
            outputCount++;
            return outputCount - 1;
        }

        private int answerTo(int bits, int fault) {
            settle(bits, fault != NONE);
            // Without faults all bits of a line's values are the same: any one will do.
            int place = fault == NONE ? 0 : fault;
            int sum = 0;
            for (int i = 0; i < outputCount; i++) {
                sum |= (int) (valuesOfOutput(i) >>> place & 1) << i;
            }
            return sum;
        }

        private long valuesOfOutput(int i) {
            return values[outputLines[i]];
        }

        private void settle(int bits, boolean withFaults) {
            int lines = countLines();
            for (int line = 0; line < lines; line++) {
                long told = line < channelCount ? spread(bits >>> line) : valuesOfGate(line - channelCount);
                values[line] = withFaults ? withStuck(told, line) : told;
            }
        }

        private long valuesOfGate(int g) {
            long a = values[lefts[g]];
            long b = values[rights[g]];
            switch (kinds[g]) {
                case AND:
                    return a & b;
                case OR:
                    return a | b;
                case XOR:
                    return a ^ b;
                case NAND:
                    return ~(a & b);
                case NOR:
                    return ~(a | b);
                default:
                    return ~a;
            }
        }

        private static long withStuck(long told, int line) {
            long atZero = 1L << (2 * line);
            long atOne = atZero << 1;
            return (told & ~atZero) | atOne;
        }

        /** Bit 0, in all 64 places. */
        private static long spread(int bits) {
            return -(long) (bits & 1);
        }
    }

    /**
     * How the answers, and the signatures, with each fault differ from those without: signatures are
     * sums, so the signature of the differences is the difference of the signatures. Bit f of row k
     * is the coefficient of x^k with fault f.
     */
    private static final class Differences {
        private final long[] rows;
        private long seen;

        private Differences() {
            rows = new long[MAX_DEGREE + 1];
        }

        private void clear() {
            seen = 0;
            for (int k = 0; k < rows.length; k++) {
                rows[k] = 0;
            }
        }

        private void timesX() {
            for (int k = rows.length - 1; k > 0; k--) {
                rows[k] = rows[k - 1];
            }
            rows[0] = 0;
        }

        private void addAnswers(Circuit circuit, int bits) {
            int right = circuit.answerTo(bits, NONE);
            circuit.settle(bits, true);
            for (int i = 0; i < circuit.outputCount; i++) {
                long differing = circuit.valuesOfOutput(i) ^ Circuit.spread(right >>> i);
                rows[i] ^= differing;
                seen |= differing;
            }
        }

        private void reduce(Modulus modulus) {
            for (int k = rows.length - 1; k >= modulus.degree; k--) {
                long top = rows[k];
                if (top != 0) {
                    subtract(top, modulus.p, k - modulus.degree);
                }
            }
        }

        /** Takes p times x^shift away from those faults' differences that top names. */
        private void subtract(long top, long p, int shift) {
            for (int j = 0; j + shift < rows.length; j++) {
                if ((p >>> j & 1) == 1) {
                    rows[j + shift] ^= top;
                }
            }
        }

        /** The faults whose signatures differ. */
        private long found() {
            long some = 0;
            for (int k = 0; k < rows.length; k++) {
                some |= rows[k];
            }
            return some;
        }
    }
}
