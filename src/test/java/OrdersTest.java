/** Promises 6 to 8, and what the terms say of irreducible and primitive polynomials and of orders. */
public final class OrdersTest {
    private static final Due due = new Due();

    public static void main(String[] args) {
        due.run(
                OrdersTest::irreducibleOfLowestDegrees,
                OrdersTest::productsOfTwo,
                OrdersTest::allOfLowDegrees,
                OrdersTest::countsOfDegreeSixteen,
                OrdersTest::squaresOfIrreducibleOnes,
                OrdersTest::productsOfOneDegree,
                OrdersTest::knownPrimitive,
                OrdersTest::allOrdersOfIrreducibleOnes,
                OrdersTest::orderIsTheLeastAboveZero,
                OrdersTest::ordersUpToEighteen,
                OrdersTest::noOrderAboveEighteen,
                OrdersTest::stateStays);
    }

    private static void irreducibleOfLowestDegrees() {
        due.sentence("Terms: IRREDUCIBLE if it is no product of two of lesser degrees that are above 0");
        // x + 1 has no lesser degree above 0, and x^2 + x + 1 is no square of x + 1.
        due.answer("irreducible() of x + 1", Made.of(3).irreducible(), true);
        due.answer("irreducible() of x^2 + 1", Made.of(5).irreducible(), false);
        due.answer("irreducible() of x^2 + x + 1", Made.of(7).irreducible(), true);
        due.answer("irreducible() of x^3 + 1", Made.of(9).irreducible(), false);
        due.answer("irreducible() of x^3 + x^2 + x + 1", Made.of(15).irreducible(), false);
    }

    /** Of each degree up to 32, with a factor of each lesser degree: 1 and 31 to 16 and 16. */
    private static void productsOfTwo() {
        due.sentence("Terms: IRREDUCIBLE if it is no product of two of lesser degrees that are above 0");
        for (int n = 2; n <= 32; n++) {
            for (int d = 1; 2 * d <= n; d++) {
                long p = Made.product(Made.PRIMITIVE[d - 1], Made.PRIMITIVE[n - d - 1]);
                ShiftSignatures x = new ShiftSignatures();
                due.answer("polynomial(" + p + ")", x.polynomial(p), n);
                due.answer("irreducible() of " + p, x.irreducible(), false);
                due.answer("primitive() of " + p, x.primitive(), false);
            }
        }
    }

    private static void allOfLowDegrees() {
        due.sentence("Promises 6 to 8: Whether p is irreducible, whether p is primitive, the order of p");
        Reference r = new Reference();
        for (long p = 3; p < 1L << 12; p += 2) {
            ShiftSignatures x = Made.of(p);
            r.polynomial(p);
            due.answer("irreducible() of " + p, x.irreducible(), r.irreducible());
            due.answer("primitive() of " + p, x.primitive(), r.primitive());
            due.answer("order() of " + p, x.order(), r.order());
        }
    }

    /** There are 4080 irreducible polynomials of degree 16, and 2048 of them are primitive. */
    private static void countsOfDegreeSixteen() {
        due.sentence("Promises 6 and 7: Whether p is irreducible, whether p is primitive");
        int irreducible = 0;
        int primitive = 0;
        for (long p = (1L << 16) + 1; p < 1L << 17; p += 2) {
            ShiftSignatures x = Made.of(p);
            irreducible += x.irreducible() ? 1 : 0;
            primitive += x.primitive() ? 1 : 0;
        }
        due.answer("irreducible ones of degree 16", irreducible, 4080);
        due.answer("primitive ones of degree 16", primitive, 2048);
    }

    private static void squaresOfIrreducibleOnes() {
        due.sentence("Promise 6: Whether p is irreducible (the square of one is not)");
        for (int d = 1; d <= 16; d++) {
            long p = Made.product(Made.PRIMITIVE[d - 1], Made.PRIMITIVE[d - 1]);
            due.answer("irreducible() of " + p, Made.of(p).irreducible(), false);
            due.answer("primitive() of " + p, Made.of(p).primitive(), false);
        }
    }

    /** Where all factors have a degree d that divides n, x^(2^n - 1) is 1 though p is not primitive. */
    private static void productsOfOneDegree() {
        due.sentence("Promise 7: Whether p is primitive (a product is not)");
        for (int n = 2; n <= 32; n++) {
            for (int d = 2; d < n; d++) {
                if (n % d == 0) {
                    long p = productOfIrreducible(d, n / d);
                    due.answer("irreducible() of " + p, Made.of(p).irreducible(), false);
                    due.answer("primitive() of " + p, Made.of(p).primitive(), false);
                }
            }
        }
    }

    /** The last ones of their degree, or fewer if there are not so many. */
    private static long productOfIrreducible(int degree, int many) {
        Reference r = new Reference();
        long product = 1;
        int taken = 0;
        for (long p = (2L << degree) - 1; p > 1L << degree && taken < many; p -= 2) {
            r.polynomial(p);
            if (r.irreducible()) {
                product = Made.product(product, p);
                taken++;
            }
        }
        return taken < 2 ? 5 : product;
    }

    private static void knownPrimitive() {
        due.sentence("Terms: it is PRIMITIVE if that is 2^n - 1");
        for (long p : Made.PRIMITIVE) {
            due.answer("irreducible() of " + p, Made.of(p).irreducible(), true);
            due.answer("primitive() of " + p, Made.of(p).primitive(), true);
        }
        due.answer("primitive() of x^4 + x^3 + x^2 + x + 1, of order 5", Made.of(31).primitive(), false);
        due.answer("primitive() of x^2 + 1, of order 2", Made.of(5).primitive(), false);
        due.answer("primitive() of x^32 + 1, of order 32", Made.of(0x100000001L).primitive(), false);
    }

    /**
     * For each degree and each factor q of 2^n - 1 a polynomial whose order is (2^n - 1) / q: the one
     * that x^q is a root of, where x is a root of a primitive one.
     */
    private static void allOrdersOfIrreducibleOnes() {
        due.sentence("Terms: it is PRIMITIVE if that is 2^n - 1");
        for (long p : Made.PRIMITIVE) {
            Reference r = new Reference();
            int n = r.polynomial(p);
            long all = (1L << n) - 1;
            for (long q = 1; q * q <= all; q += 2) {
                if (all % q == 0) {
                    tellPower(r, q, all);
                    tellPower(r, all / q, all);
                }
            }
        }
    }

    private static void tellPower(Reference field, long q, long all) {
        long minimal = minimalOf(field, q);
        ShiftSignatures x = new ShiftSignatures();
        int degree = x.polynomial(minimal);
        String name = " of " + minimal + ", of x^" + q + " modulo " + field.p;
        due.answer("irreducible()" + name, x.irreducible(), true);
        due.answer("primitive()" + name, x.primitive(), all / q == (1L << degree) - 1);
        due.answer("order()" + name, x.order(), degree > 18 ? -1 : all / q);
    }

    /** The least polynomial that x^q is a root of: the product of y + x^(q * 2^k) over all such. */
    private static long minimalOf(Reference field, long q) {
        long[] product = new long[34];
        product[0] = 1;
        long start = field.power(field.residue(2), q);
        long root = start;
        do {
            for (int k = 33; k >= 0; k--) {
                product[k] = (k == 0 ? 0 : product[k - 1]) ^ field.times(product[k], root);
            }
            root = field.times(root, root);
        } while (root != start);
        long bits = 0;
        for (int k = 0; k < 34; k++) {
            bits |= product[k] << k;
        }
        return bits;
    }

    private static void orderIsTheLeastAboveZero() {
        due.sentence("Terms: Its ORDER is the least k above 0 for which x^k leaves 1");
        due.answer("order() of x + 1", Made.of(3).order(), 1);
        due.answer("order() of a new object", new ShiftSignatures().order(), 1);
        due.answer("order() of x^2 + x + 1", Made.of(7).order(), 3);
        due.answer("order() of (x + 1)(x^2 + x + 1)", Made.of(9).order(), 3);
        due.answer("order() of (x^2 + x + 1)^2", Made.of(21).order(), 6);
        long power = 1;
        int[] orders = {1, 2, 4, 4, 8, 8, 8, 8, 16, 16, 16, 16, 16, 16, 16, 16, 32, 32};
        for (int k = 1; k <= 18; k++) {
            power = Made.product(power, 3);
            due.answer("order() of (x + 1)^" + k, Made.of(power).order(), orders[k - 1]);
        }
        for (int n = 1; n <= 18; n++) {
            due.answer("order() of x^" + n + " + 1", Made.of((1L << n) + 1).order(), n);
        }
    }

    private static void ordersUpToEighteen() {
        due.sentence("Promise 8: The order of p");
        Reference r = new Reference();
        for (int n = 1; n <= 18; n++) {
            for (long k = 0; k < 40; k++) {
                long p = 1L << n | k * 0x9E3779B97F4A7C15L >>> (64 - n) | 1;
                r.polynomial(p);
                due.answer("order() of " + p, Made.of(p).order(), r.order());
            }
            due.answer("order() of degree " + n, Made.of(Made.PRIMITIVE[n - 1]).order(), (1L << n) - 1);
        }
    }

    private static void noOrderAboveEighteen() {
        due.sentence("Promise 8: NONE if its degree is above 18");
        due.answer("order() of x^18 + x^7 + 1", Made.of(0x40081).order(), 262143);
        due.answer("order() of x^18 + 1", Made.of(0x40001).order(), 18);
        due.answer("order() of the greatest of degree 18", Made.of(0x7FFFF).order(), 19);
        for (int n = 19; n <= 32; n++) {
            due.answer("order() of x^" + n + " + 1", Made.of((1L << n) + 1).order(), ShiftSignatures.NONE);
            due.answer("order() of " + (n + 1) + " ones", Made.of((2L << n) - 1).order(), ShiftSignatures.NONE);
            due.answer("order() of degree " + n, Made.of(Made.PRIMITIVE[n - 1]).order(), ShiftSignatures.NONE);
        }
    }

    private static void stateStays() {
        due.sentence("Promises 6 to 8: they tell, and change nothing");
        ShiftSignatures x = Made.full();
        x.irreducible();
        x.primitive();
        x.order();
        due.same("a full object behind the questions", State.of(x), State.of(Made.full()));
    }
}
