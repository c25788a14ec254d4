/** Promises 6 to 8. */
public final class OrdersTest {
    /** One of each degree from 1 on, well known ones. */
    private static final long[] PRIMITIVE = {
        0x3, 0x7, 0xB, 0x13, 0x25, 0x43, 0x83, 0x11D, 0x211, 0x409, 0x805, 0x1053, 0x201B, 0x402B,
        0x8003, 0x1002D, 0x20009, 0x40081, 0x80027, 0x100009, 0x200005, 0x400003, 0x800021,
        0x1000087, 0x2000009, 0x4000047, 0x8000027, 0x10000009, 0x20000005, 0x40000053L,
        0x80000009L, 0x100400007L
    };
    private static final Due due = new Due();

    public static void main(String[] args) {
        allOfLowDegrees();
        countsOfDegreeSixteen();
        ordersUpToEighteen();
        knownPrimitive();
        allOrdersOfIrreducibleOnes();
        squaresAndProducts();
        productsOfOneDegree();
        stateStays();
        due.end();
    }

    private static void allOfLowDegrees() {
        ShiftSignatures x = new ShiftSignatures();
        Reference r = new Reference();
        for (long p = 3; p < 1L << 12; p += 2) {
            x.polynomial(p);
            r.polynomial(p);
            due.answer("irreducible() of " + p, x.irreducible(), r.irreducible());
            due.answer("primitive() of " + p, x.primitive(), r.primitive());
            due.answer("order() of " + p, x.order(), r.order());
        }
    }

    /** There are 4080 irreducible polynomials of degree 16, and 2048 of them are primitive. */
    private static void countsOfDegreeSixteen() {
        ShiftSignatures x = new ShiftSignatures();
        int irreducible = 0;
        int primitive = 0;
        for (long p = (1L << 16) + 1; p < 1L << 17; p += 2) {
            x.polynomial(p);
            irreducible += x.irreducible() ? 1 : 0;
            primitive += x.primitive() ? 1 : 0;
        }
        due.answer("irreducible ones of degree 16", irreducible, 4080);
        due.answer("primitive ones of degree 16", primitive, 2048);
    }

    private static void ordersUpToEighteen() {
        ShiftSignatures x = new ShiftSignatures();
        Reference r = new Reference();
        for (int n = 1; n <= 18; n++) {
            for (long k = 0; k < 40; k++) {
                long p = 1L << n | k * 0x9E3779B97F4A7C15L >>> (64 - n) | 1;
                x.polynomial(p);
                r.polynomial(p);
                due.answer("order() of " + p, x.order(), r.order());
            }
        }
        for (int n = 1; n <= 18; n++) {
            x.polynomial((1L << n) + 1);
            due.answer("order() of x^" + n + " + 1", x.order(), n);
        }
        for (int n = 19; n <= 32; n++) {
            x.polynomial((1L << n) + 1);
            due.answer("order() of x^" + n + " + 1", x.order(), ShiftSignatures.NONE);
        }
        x.polynomial(0x40081);
        due.answer("order() of x^18 + x^7 + 1", x.order(), 262143);
    }

    private static void knownPrimitive() {
        ShiftSignatures x = new ShiftSignatures();
        for (int n = 1; n <= 32; n++) {
            long p = PRIMITIVE[n - 1];
            due.answer("polynomial(" + p + ")", x.polynomial(p), n);
            due.answer("irreducible() of " + p, x.irreducible(), true);
            due.answer("primitive() of " + p, x.primitive(), true);
        }
    }

    /**
     * For each degree and each factor q of 2^n - 1 a polynomial whose order is (2^n - 1) / q: the one
     * that x^q is a root of, where x is a root of a primitive one.
     */
    private static void allOrdersOfIrreducibleOnes() {
        for (long p : PRIMITIVE) {
            Reference r = new Reference();
            int n = r.polynomial(p);
            long all = (1L << n) - 1;
            for (long q = 1; q * q <= all; q += 2) {
                if (all % q == 0) {
                    tellPower(r, q, all);
                    tellPower(r, all / q, all);
                }
            }
        }
    }

    private static void tellPower(Reference field, long q, long all) {
        long minimal = minimalOf(field, q);
        ShiftSignatures x = new ShiftSignatures();
        int degree = x.polynomial(minimal);
        String name = " of " + minimal + ", of x^" + q + " modulo " + field.p;
        due.answer("irreducible()" + name, x.irreducible(), true);
        due.answer("primitive()" + name, x.primitive(), all / q == (1L << degree) - 1);
        due.answer("order()" + name, x.order(), degree > 18 ? -1 : all / q);
    }

    /** The least polynomial that x^q is a root of: the product of y + x^(q * 2^k) over all such. */
    private static long minimalOf(Reference field, long q) {
        long[] product = new long[34];
        product[0] = 1;
        long start = field.power(field.residue(2), q);
        long root = start;
        do {
            for (int k = 33; k >= 0; k--) {
                product[k] = (k == 0 ? 0 : product[k - 1]) ^ field.times(product[k], root);
            }
            root = field.times(root, root);
        } while (root != start);
        long bits = 0;
        for (int k = 0; k < 34; k++) {
            bits |= product[k] << k;
        }
        return bits;
    }

    private static void squaresAndProducts() {
        ShiftSignatures x = new ShiftSignatures();
        long[] factors = {0x3, 0x7, 0xB, 0x1F, 0x25, 0x11D, 0x8003, 0x1002D, 0x1FFFF};
        for (long a : factors) {
            for (long b : factors) {
                long p = product(a, b);
                x.polynomial(p);
                due.answer("irreducible() of " + p, x.irreducible(), false);
                due.answer("primitive() of " + p, x.primitive(), false);
            }
        }
        long power = 1;
        int[] orders = {1, 2, 4, 4, 8, 8, 8, 8, 16, 16, 16, 16, 16, 16, 16, 16, 32, 32};
        for (int k = 1; k <= 18; k++) {
            power = product(power, 3);
            x.polynomial(power);
            due.answer("order() of (x + 1)^" + k, x.order(), orders[k - 1]);
        }
    }

    /** Where all factors have a degree d that divides n, x^(2^n - 1) is 1 though p is not primitive. */
    private static void productsOfOneDegree() {
        ShiftSignatures x = new ShiftSignatures();
        for (int n = 2; n <= 32; n++) {
            for (int d = 2; d < n; d++) {
                if (n % d == 0) {
                    long p = productOfIrreducible(d, n / d);
                    x.polynomial(p);
                    due.answer("irreducible() of " + p, x.irreducible(), false);
                    due.answer("primitive() of " + p, x.primitive(), false);
                }
            }
        }
    }

    /** The last ones of their degree, or fewer if there are not so many. */
    private static long productOfIrreducible(int degree, int many) {
        Reference r = new Reference();
        long product = 1;
        int taken = 0;
        for (long p = (2L << degree) - 1; p > 1L << degree && taken < many; p -= 2) {
            r.polynomial(p);
            if (r.irreducible()) {
                product = product(product, p);
                taken++;
            }
        }
        return taken < 2 ? 5 : product;
    }

    private static void stateStays() {
        ShiftSignatures x = new ShiftSignatures();
        x.polynomial(19);
        x.load(6);
        x.channel(6);
        x.irreducible();
        x.primitive();
        x.order();
        due.answer("residue(16) behind the questions", x.residue(16), 3);
        due.answer("the register behind the questions", x.steps(0), 6);
        due.answer("the channels behind the questions", x.channel(2), 1);
        due.answer("the pattern behind the questions", x.pattern(), 2);
    }

    private static long product(long a, long b) {
        long sum = 0;
        for (int k = 0; k < 32; k++) {
            if ((b >> k & 1) == 1) {
                sum ^= a << k;
            }
        }
        return sum;
    }
}
