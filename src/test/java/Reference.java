import java.math.BigInteger;
import java.util.ArrayList;
import java.util.List;

/** The document's terms in their slowest and plainest form, to hold the program against. */
final class Reference {
    long p = 3;
    int n = 1;
    long register = 1;
    final List<Long> masks = new ArrayList<>();
    final List<int[]> gates = new ArrayList<>();
    final List<Integer> outputs = new ArrayList<>();

    int polynomial(long told) {
        BigInteger big = unsigned(told);
        int degree = big.bitLength() - 1;
        if (degree < 1 || degree > 32 || !big.testBit(0)) {
            throw new IllegalArgumentException();
        }
        p = told;
        n = degree;
        register = 1;
        masks.clear();
        gates.clear();
        outputs.clear();
        return degree;
    }

    long times(long a, long b) {
        if (noResidue(a) || noResidue(b)) {
            throw new IllegalArgumentException();
        }
        BigInteger product = BigInteger.ZERO;
        for (int k = 0; k < 32; k++) {
            if ((b >> k & 1) == 1) {
                product = product.xor(unsigned(a).shiftLeft(k));
            }
        }
        return left(product, p);
    }

    long power(long a, long e) {
        if (noResidue(a) || e < 0) {
            throw new IllegalArgumentException();
        }
        if (e == 0) {
            return 1;
        }
        long half = power(a, e / 2);
        long square = times(half, half);
        return e % 2 == 0 ? square : times(square, a);
    }

    long residue(long a) {
        return left(unsigned(a), p);
    }

    boolean irreducible() {
        for (long d = 2; d < 1L << (n / 2 + 1); d++) {
            if (divides(d, p)) {
                return false;
            }
        }
        return true;
    }

    /** By its order where that can be counted, and else by the prime factors of 2^n - 1. */
    boolean primitive() {
        long all = (1L << n) - 1;
        if (n <= 18) {
            return countedOrder() == all;
        }
        long x = residue(2);
        if (power(x, all) != 1) {
            return false;
        }
        long rest = all;
        for (long q = 2; q * q <= rest; q++) {
            if (rest % q == 0) {
                if (power(x, all / q) == 1) {
                    return false;
                }
                while (rest % q == 0) {
                    rest /= q;
                }
            }
        }
        return rest == 1 || power(x, all / rest) != 1;
    }

    long order() {
        return n > 18 ? -1 : countedOrder();
    }

    long load(long v) {
        if (noResidue(v)) {
            throw new IllegalArgumentException();
        }
        long before = register;
        register = v;
        return before;
    }

    long steps(long many) {
        if (many < 0) {
            throw new IllegalArgumentException();
        }
        register = times(register, power(residue(2), many));
        return register;
    }

    int channel(long mask) {
        if (noResidue(mask)) {
            throw new IllegalArgumentException();
        }
        if (masks.size() == 8) {
            throw new IllegalStateException();
        }
        masks.add(mask);
        gates.clear();
        outputs.clear();
        return masks.size() - 1;
    }

    int pattern() {
        return patternOf(register);
    }

    int gate(int kind, int a, int b) {
        if (kind < 0 || kind > 5) {
            throw new IllegalArgumentException();
        }
        if (noLine(a) || kind != 5 && noLine(b)) {
            throw new IndexOutOfBoundsException();
        }
        if (gates.size() == 24) {
            throw new IllegalStateException();
        }
        gates.add(new int[] {kind, a, b});
        return lines() - 1;
    }

    int output(int line) {
        if (noLine(line)) {
            throw new IndexOutOfBoundsException();
        }
        if (outputs.size() == 16) {
            throw new IllegalStateException();
        }
        outputs.add(line);
        return outputs.size() - 1;
    }

    int answer(int pattern, int fault) {
        if (fault != -1 && noFault(fault)) {
            throw new IndexOutOfBoundsException();
        }
        boolean[] is = new boolean[lines()];
        for (int line = 0; line < is.length; line++) {
            is[line] = line < masks.size() ? (pattern >> line & 1) == 1 : told(gates.get(line - masks.size()), is);
            if (fault == 2 * line) {
                is[line] = false;
            }
            if (fault == 2 * line + 1) {
                is[line] = true;
            }
        }
        int sum = 0;
        for (int i = 0; i < outputs.size(); i++) {
            sum += is[outputs.get(i)] ? 1 << i : 0;
        }
        return sum;
    }

    long session(int m, int fault) {
        if (fault != -1 && noFault(fault)) {
            throw new IndexOutOfBoundsException();
        }
        requirePatterns(m);
        long signature = 0;
        for (int given : answers(m, fault)) {
            signature = left(unsigned(signature).shiftLeft(1), p) ^ residue(given);
        }
        return signature;
    }

    int faults(int m, int what) {
        if (what < 0 || what > 3) {
            throw new IndexOutOfBoundsException();
        }
        requirePatterns(m);
        int seen = 0;
        int found = 0;
        int missed = -1;
        for (int fault = 0; fault < 2 * lines(); fault++) {
            boolean isSeen = first(m, fault) != -1;
            boolean isFound = session(m, fault) != session(m, -1);
            seen += isSeen ? 1 : 0;
            found += isFound ? 1 : 0;
            if (isSeen && !isFound && missed == -1) {
                missed = fault;
            }
        }
        return new int[] {2 * lines(), seen, found, missed}[what];
    }

    int first(int m, int fault) {
        if (noFault(fault)) {
            throw new IndexOutOfBoundsException();
        }
        requirePatterns(m);
        List<Integer> with = answers(m, fault);
        List<Integer> without = answers(m, -1);
        for (int t = 0; t < m; t++) {
            if (!with.get(t).equals(without.get(t))) {
                return t;
            }
        }
        return -1;
    }

    int lines() {
        return masks.size() + gates.size();
    }

    private List<Integer> answers(int m, int fault) {
        List<Integer> given = new ArrayList<>();
        long copy = register;
        for (int t = 0; t < m; t++) {
            given.add(answer(patternOf(copy), fault));
            copy = left(unsigned(copy).shiftLeft(1), p);
        }
        return given;
    }

    private int patternOf(long held) {
        int sum = 0;
        for (int c = 0; c < masks.size(); c++) {
            sum += Long.bitCount(held & masks.get(c)) % 2 << c;
        }
        return sum;
    }

    private long countedOrder() {
        long power = residue(2);
        long k = 1;
        while (power != 1) {
            power <<= 1;
            if (power >> n == 1) {
                power ^= p;
            }
            k++;
        }
        return k;
    }

    private static boolean told(int[] gate, boolean[] is) {
        boolean a = is[gate[1]];
        boolean b = gate[0] != 5 && is[gate[2]];
        return switch (gate[0]) {
            case 0 -> a && b;
            case 1 -> a || b;
            case 2 -> a != b;
            case 3 -> !(a && b);
            case 4 -> !(a || b);
            default -> !a;
        };
    }

    private void requirePatterns(int m) {
        if (m < 0 || m > 256) {
            throw new IllegalArgumentException();
        }
    }

    private boolean noResidue(long a) {
        return a < 0 || a >= 1L << n;
    }

    private boolean noLine(int line) {
        return line < 0 || line >= lines();
    }

    private boolean noFault(int fault) {
        return fault < 0 || fault >= 2 * lines();
    }

    private static boolean divides(long d, long a) {
        int low = Long.toBinaryString(d).length() - 1;
        long rest = a;
        for (int k = 32; k >= low; k--) {
            if ((rest >> k & 1) == 1) {
                rest ^= d << (k - low);
            }
        }
        return rest == 0;
    }

    private static long left(BigInteger a, long divisor) {
        BigInteger by = unsigned(divisor);
        BigInteger rest = a;
        while (rest.bitLength() >= by.bitLength()) {
            rest = rest.xor(by.shiftLeft(rest.bitLength() - by.bitLength()));
        }
        return rest.longValueExact();
    }

    private static BigInteger unsigned(long a) {
        return new BigInteger(Long.toUnsignedString(a));
    }
}
