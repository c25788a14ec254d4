/** Promises 16 to 18, and what the terms say of sessions and of faults that are seen and found. */
public final class SessionTest {
    private static final int[] NO_FAULTS = {6, 7, 64, Integer.MAX_VALUE, -2, -3, Integer.MIN_VALUE};
    private static final int[] NO_LENGTHS = {-1, 257, 258, Integer.MAX_VALUE, Integer.MIN_VALUE};
    private static final Due due = new Due();

    public static void main(String[] args) {
        due.run(
                SessionTest::sessionOfNoPatterns,
                SessionTest::signatureByHand,
                SessionTest::wideAnswersAreReduced,
                SessionTest::registerStays,
                SessionTest::registerOfZero,
                SessionTest::lastOfAllPatterns,
                SessionTest::sessionsWithEachFaultOrNone,
                SessionTest::sessionOfNoSuchFault,
                SessionTest::sessionOfNoSuchLength,
                SessionTest::allFaultsAreCounted,
                SessionTest::faultsByHand,
                SessionTest::faultsOfNoPatterns,
                SessionTest::seenButNotFound,
                SessionTest::noneSeenButNotFound,
                SessionTest::firstMissedByNumber,
                SessionTest::hiddenAfterOneRound,
                SessionTest::sixtyFourFaults,
                SessionTest::sixtyFourFaultsAtOnce,
                SessionTest::whatIsNoQuestion,
                SessionTest::faultsOfNoSuchLength,
                SessionTest::firsts,
                SessionTest::firstOfFaultsNotSeen,
                SessionTest::firstOfNoSuchFault,
                SessionTest::firstOfNoFault,
                SessionTest::firstOfNoSuchLength);
    }

    private static void sessionOfNoPatterns() {
        due.sentence("Terms: a signature is 0; m times (0 times, too)");
        for (int fault = -1; fault < 6; fault++) {
            due.answer("session(0, " + fault + ")", Made.small().session(0, fault), 0);
        }
        due.answer("session(0, NONE) of a full object", Made.full().session(0, -1), 0);
        due.answer("session(0, NONE) of a new object", new ShiftSignatures().session(0, -1), 0);
    }

    /** The register goes 1, 2, 4, 3, 6, 7, 5 modulo x^3 + x + 1; the only line is its bit 0. */
    private static void signatureByHand() {
        due.sentence("Terms: the signature becomes what it is times x, modulo p, + the answer");
        ShiftSignatures x = bitZeroOfThree();
        // The answers are 1, 0, 0, 1, 0, 1, 1, and from there on the same again.
        long[] signatures = {0, 1, 2, 4, 2, 4, 2, 5, 0, 0, 0, 1};
        for (int m = 0; m < signatures.length; m++) {
            due.answer("session(" + m + ", NONE)", x.session(m, -1), signatures[m]);
        }
        due.answer("session(3, 0)", x.session(3, 0), 0);
        due.answer("session(3, 1)", x.session(3, 1), 7);
        due.answer("session(7, 1)", x.session(7, 1), 0);
        due.answer("session(256, 0)", x.session(256, 0), 0);
        // 256 ones are 36 times seven, which leave 0, and 1 + x + x^2 + x^3 more: 7 + 3.
        due.answer("session(256, 1)", x.session(256, 1), 4);
        due.answer("session(255, 1)", x.session(255, 1), 7);
    }

    private static void wideAnswersAreReduced() {
        due.sentence("Terms: + the answer (modulo p, too)");
        ShiftSignatures x = Made.of(11, 1);
        x.gate(ShiftSignatures.NOT, 0, 0);
        for (int i = 0; i < 16; i++) {
            x.output(i < 10 ? 0 : 1);
        }
        // At first line 0 is 1: 2^10 - 1 is the sum of x^0 .. x^9, which leaves 1 + x + x^2.
        due.answer("session(1, NONE)", x.session(1, -1), 7);
        // Then line 1 is 1: x^10 to x^15 are x^3 to x^8, all of seven but x^2: 4; and 7 times x is 5.
        due.answer("session(2, NONE)", x.session(2, -1), 1);
        for (int outputs = 1; outputs <= 16; outputs++) {
            ShiftSignatures one = new ShiftSignatures();
            one.channel(1);
            for (int i = 0; i < outputs; i++) {
                one.output(0);
            }
            due.answer("session(1, NONE) of " + outputs + " ones modulo x + 1", one.session(1, -1), outputs % 2);
        }
        ShiftSignatures wide = Made.of(Made.WIDE, 1);
        for (int i = 0; i < 16; i++) {
            wide.output(0);
        }
        due.answer("session(1, NONE) of degree 32", wide.session(1, -1), 65535);
        due.answer("session(17, NONE) of degree 32", wide.session(17, -1), 65535L << 16);
    }

    private static void registerStays() {
        due.sentence("Terms: the register is copied (The register stays.)");
        ShiftSignatures x = bitZeroOfThree();
        x.load(3);
        due.answer("session(1, NONE) of register 3", x.session(1, -1), 1);
        due.answer("session(4, NONE) of register 3", x.session(4, -1), 0);
        due.answer("session(4, NONE) once more", x.session(4, -1), 0);
        x.session(256, 1);
        x.faults(5, 1);
        x.faults(5, 2);
        x.faults(5, 3);
        x.first(5, 0);
        due.answer("the register behind them", x.steps(0), 3);
        due.answer("the pattern behind them", x.pattern(), 1);
    }

    private static void registerOfZero() {
        due.sentence("Terms: the answer to the pattern of the copy (where the register is 0)");
        ShiftSignatures x = bitZeroOfThree();
        x.load(0);
        due.answer("session(9, NONE)", x.session(9, -1), 0);
        due.answer("session(1, 1)", x.session(1, 1), 1);
        due.answer("faults(256, 1)", x.faults(256, 1), 1);
        due.answer("first(256, 0)", x.first(256, 0), -1);
        due.answer("first(256, 1)", x.first(256, 1), 0);
    }

    /** A circuit whose answer is 0 up to pattern 254, and 1 at pattern 255. */
    private static void lastOfAllPatterns() {
        due.sentence("Terms: m times (256 times, too)");
        long start = startWithNewLastPattern();
        ShiftSignatures x = Made.of(0x211, 1, 2, 4, 8, 16, 32, 64, 128);
        x.load(start);
        x.steps(255);
        int last = tellWhetherPatternIs(x, x.pattern());
        x.load(start);
        due.answer("session(255, NONE)", x.session(255, -1), 0);
        due.answer("session(256, NONE)", x.session(256, -1), 1);
        due.answer("session(256, last line at 0)", x.session(256, 2 * last), 0);
        due.answer("first(255, last line at 0)", x.first(255, 2 * last), -1);
        due.answer("first(256, last line at 0)", x.first(256, 2 * last), 255);
        due.answer("first(256, last line at 1)", x.first(256, 2 * last + 1), 0);
        due.answer("faults(256, 1) above faults(255, 1)", x.faults(256, 1) > x.faults(255, 1), true);
        due.answer("the register behind them", x.steps(0), start);
    }

    /** Modulo x^9 + x^4 + 1: the low 8 bits are at pattern 255 what they never were before. */
    private static long startWithNewLastPattern() {
        for (long start = 1; start < 512; start++) {
            boolean[] was = new boolean[256];
            long held = start;
            for (int t = 0; t < 255; t++) {
                was[(int) held & 255] = true;
                held = held << 1 >> 9 == 1 ? held << 1 ^ 0x211 : held << 1;
            }
            if (!was[(int) held & 255]) {
                return start;
            }
        }
        throw new AssertionError("there is no such start");
    }

    private static int tellWhetherPatternIs(ShiftSignatures x, int pattern) {
        int all = -1;
        for (int c = 0; c < 8; c++) {
            int line = (pattern >> c & 1) == 1 ? c : x.gate(ShiftSignatures.NOT, c, c);
            all = all == -1 ? line : x.gate(ShiftSignatures.AND, all, line);
        }
        x.output(all);
        return all;
    }

    private static void sessionsWithEachFaultOrNone() {
        due.sentence("Promise 16: The result of a SESSION of m patterns with a fault, or none");
        // The answers of an AND to the patterns 1, 2, 0, 3, 2, 3, 1, 1 with none, and with lines 0 to 2 stuck.
        int[][] answers = {
            {0, 0, 0, 1, 0, 1, 0, 0},
            {0, 0, 0, 0, 0, 0, 0, 0}, {0, 1, 0, 1, 1, 1, 0, 0},
            {0, 0, 0, 0, 0, 0, 0, 0}, {1, 0, 0, 1, 0, 1, 1, 1},
            {0, 0, 0, 0, 0, 0, 0, 0}, {1, 1, 1, 1, 1, 1, 1, 1}
        };
        ShiftSignatures x = Made.small();
        for (int fault = ShiftSignatures.NONE; fault < 6; fault++) {
            long signature = 0;
            for (int m = 0; m <= 8; m++) {
                due.answer("session(" + m + ", " + fault + ")", x.session(m, fault), signature);
                if (m < 8) {
                    long times = signature << 1;
                    signature = (times > 7 ? times ^ 11 : times) ^ answers[fault + 1][m];
                }
            }
        }
    }

    private static void sessionOfNoSuchFault() {
        due.sentence("Promise 16: IndexOutOfBounds: there is no such fault");
        for (int fault : NO_FAULTS) {
            due.badIndex("session(1, " + fault + ")", Made::small, x -> x.session(1, fault));
            due.badIndex("session(0, " + fault + ")", Made::small, x -> x.session(0, fault));
            due.badIndex("session(256, " + fault + ")", Made::small, x -> x.session(256, fault));
        }
        due.badIndex("session(1, 64) of 32 lines", Made::full, x -> x.session(1, 64));
        due.answer("session(1, 5)", Made.small().session(1, 5), 1);
        due.answer("session(1, 0)", Made.small().session(1, 0), 0);
    }

    private static void sessionOfNoSuchLength() {
        due.sentence("Promise 16: IllegalArgument");
        for (int m : NO_LENGTHS) {
            due.badArgument("session(" + m + ", NONE)", Made::small, x -> x.session(m, -1));
            due.badArgument("session(" + m + ", 0)", Made::small, x -> x.session(m, 0));
            due.badArgument("session(" + m + ", 5)", Made::small, x -> x.session(m, 5));
            due.badArgument("session(" + m + ", NONE) of a new object", ShiftSignatures::new, x -> x.session(m, -1));
        }
    }

    private static void allFaultsAreCounted() {
        due.sentence("Terms: THE FAULTS are all lines stuck at 0, and all stuck at 1");
        due.answer("faults(0, 0) of a new object", new ShiftSignatures().faults(0, 0), 0);
        due.answer("faults(0, 0) of 32 lines", Made.full().faults(0, 0), 64);
        due.answer("faults(256, 0) of 32 lines", Made.full().faults(256, 0), 64);
        ShiftSignatures x = Made.of(19, 1);
        for (int g = 0; g < 24; g++) {
            due.answer("faults(256, 0) of " + g + " gates and no output", x.faults(256, 0), 2 * g + 2);
            due.answer("faults(256, 1) of " + g + " gates and no output", x.faults(256, 1), 0);
            x.gate(ShiftSignatures.NOT, g, 0);
        }
        // Line 0 is an output, and so one that no gate uses further.
        x.output(0);
        due.answer("faults(256, 1) with an output", x.faults(256, 1), 2);
    }

    /** The patterns are 1, 2, 0, 3, 2, 3, 1, and the answers 0, 0, 0, 1, 0, 1, 0. */
    private static void faultsByHand() {
        due.sentence("Promise 17: 0 how many there are, 1 how many are SEEN, 2 how many are FOUND");
        ShiftSignatures x = Made.small();
        // Pattern 1 shows line 1 and line 2 stuck at 1; pattern 2 shows line 0 stuck at 1, too.
        due.answer("faults(1, 1)", x.faults(1, 1), 2);
        due.answer("faults(2, 1)", x.faults(2, 1), 3);
        due.answer("faults(3, 1)", x.faults(3, 1), 3);
        due.answer("faults(4, 1)", x.faults(4, 1), 6);
        due.answer("faults(1, 2)", x.faults(1, 2), 2);
        due.answer("faults(4, 2)", x.faults(4, 2), 6);
        due.answer("faults(4, 3)", x.faults(4, 3), -1);
        due.answer("faults(4, 0)", x.faults(4, 0), 6);
    }

    private static void faultsOfNoPatterns() {
        due.sentence("Terms: SEEN in a session if some answer is another one (in one of 0 patterns none is)");
        int[] small = {6, 0, 0, -1};
        int[] full = {64, 0, 0, -1};
        for (int what = 0; what <= 3; what++) {
            due.answer("faults(0, " + what + ")", Made.small().faults(0, what), small[what]);
            due.answer("faults(0, " + what + ") of 32 lines", Made.full().faults(0, what), full[what]);
        }
    }

    /** Modulo x + 1 the signature is the parity of the answers, so that two wrong ones hide. */
    private static void seenButNotFound() {
        due.sentence("Terms: SEEN if some answer is another one, FOUND if the signature is another one");
        ShiftSignatures x = new ShiftSignatures();
        x.channel(1);
        x.output(0);
        due.answer("faults(1, 3)", x.faults(1, 3), -1);
        due.answer("faults(2, 1)", x.faults(2, 1), 1);
        due.answer("faults(2, 2)", x.faults(2, 2), 0);
        due.answer("faults(2, 3)", x.faults(2, 3), 0);
        due.answer("faults(3, 2)", x.faults(3, 2), 1);
        due.answer("faults(256, 3)", x.faults(256, 3), 0);
        x.load(0);
        due.answer("faults(2, 1) of register 0", x.faults(2, 1), 1);
        due.answer("faults(2, 3) of register 0", x.faults(2, 3), 1);
        // Two outputs of one line: its one wrong answer is 3, which x + 1 divides.
        x.output(0);
        due.answer("faults(1, 1) of two outputs", x.faults(1, 1), 1);
        due.answer("faults(1, 2) of two outputs", x.faults(1, 2), 0);
        due.answer("faults(1, 3) of two outputs", x.faults(1, 3), 1);
    }

    private static void noneSeenButNotFound() {
        due.sentence("Promise 17: 3 the first fault that is SEEN, but not FOUND (NONE if there is none such)");
        due.answer("where all are found", Made.small().faults(4, 3), ShiftSignatures.NONE);
        due.answer("where there are no lines", new ShiftSignatures().faults(256, 3), ShiftSignatures.NONE);
        due.answer("where there are no patterns", Made.full().faults(0, 3), ShiftSignatures.NONE);
        ShiftSignatures unseen = Made.of(19, 1, 2, 4);
        due.answer("where none is seen", unseen.faults(256, 3), ShiftSignatures.NONE);
    }

    /** Line 0 hides stuck at 1, line 1 stuck at 0: the first by number is 1, though it is stuck at 1. */
    private static void firstMissedByNumber() {
        due.sentence("Promise 17: 3 the first fault that is SEEN, but not FOUND");
        ShiftSignatures x = new ShiftSignatures();
        x.load(0);
        x.channel(1);
        x.gate(ShiftSignatures.NOT, 0, 0);
        x.output(0);
        x.output(1);
        due.answer("faults(2, 1)", x.faults(2, 1), 2);
        due.answer("faults(2, 2)", x.faults(2, 2), 0);
        due.answer("faults(2, 3)", x.faults(2, 3), 1);
    }

    /** Where x^32 is 1, what is wrong at pattern t is made good by the same wrong at pattern t + 32. */
    private static void hiddenAfterOneRound() {
        due.sentence("Promise 17: in a session of m patterns");
        ShiftSignatures x = Made.of(0x100000001L, 1);
        x.output(0);
        int[][] seenFoundMissed = {
            {0, 0, 0, -1}, {1, 1, 1, -1}, {2, 2, 2, -1}, {32, 2, 2, -1}, {33, 2, 1, 0}, {63, 2, 1, 0},
            {64, 2, 0, 0}, {65, 2, 1, 1}, {66, 2, 2, -1}, {128, 2, 0, 0}, {255, 2, 1, 0}, {256, 2, 0, 0}
        };
        for (int[] row : seenFoundMissed) {
            for (int what = 1; what <= 3; what++) {
                due.answer("faults(" + row[0] + ", " + what + ") where x^32 is 1", x.faults(row[0], what), row[what]);
            }
        }
        // As in signatureByHand: the signatures of 8, 9 and 10 patterns are 0, as if all answers were 0.
        ShiftSignatures y = bitZeroOfThree();
        due.answer("faults(7, 3) where x^7 is 1", y.faults(7, 3), -1);
        due.answer("faults(8, 3) where x^7 is 1", y.faults(8, 3), 0);
        due.answer("faults(8, 2) where x^7 is 1", y.faults(8, 2), 1);
        due.answer("faults(10, 3) where x^7 is 1", y.faults(10, 3), 0);
        due.answer("faults(11, 3) where x^7 is 1", y.faults(11, 3), -1);
    }

    private static void sixtyFourFaults() {
        due.sentence("Promise 17: Of THE FAULTS (64 at most)");
        ShiftSignatures x = Made.eightChannels();
        x.load(1);
        tellThreeNots(x);
        due.answer("faults(256, 0)", x.faults(256, 0), 64);
        due.answer("faults(255, 1)", x.faults(255, 1), 64);
        due.answer("faults(1, 1)", x.faults(1, 1), 32);
        due.answer("faults(1, 2)", x.faults(1, 2), 32);
        due.answer("first(256, 63)", x.first(256, 63), 7);
        due.answer("first(256, 62)", x.first(256, 62), 0);
    }

    /**
     * Before the 16th signature is taken modulo p, the coefficient of x^8 is another one with each of the
     * 64 faults; behind that, some faults' signatures are the right one.
     */
    private static void sixtyFourFaultsAtOnce() {
        due.sentence("Terms: FOUND if the signature is another one (of all 64 faults at once)");
        ShiftSignatures x = Made.of(465, 73, 81, 161, 143, 78, 71, 206, 95);
        x.load(241);
        tellThreeNots(x);
        int found = 0;
        int missed = ShiftSignatures.NONE;
        for (int fault = 63; fault >= 0; fault--) {
            boolean other = x.session(16, fault) != x.session(16, -1);
            found += other ? 1 : 0;
            missed = other ? missed : fault;
        }
        due.answer("other signatures of 16 patterns", found, 60);
        due.answer("faults(16, 1)", x.faults(16, 1), 64);
        due.answer("faults(16, 2)", x.faults(16, 2), found);
        due.answer("faults(16, 3)", x.faults(16, 3), missed);
    }

    /** Each of eight channels goes through three NOTs to an output of its own. */
    private static void tellThreeNots(ShiftSignatures x) {
        for (int g = 0; g < 24; g++) {
            x.gate(ShiftSignatures.NOT, g, 0);
        }
        for (int i = 0; i < 8; i++) {
            x.output(24 + i);
        }
    }

    private static void whatIsNoQuestion() {
        due.sentence("Promise 17: IndexOutOfBounds: what is not 0 .. 3");
        for (int what : new int[] {-1, 4, 5, Integer.MAX_VALUE, Integer.MIN_VALUE}) {
            for (int m : new int[] {0, 1, 256}) {
                due.badIndex("faults(" + m + ", " + what + ")", Made::small, x -> x.faults(m, what));
            }
            due.badIndex("faults(1, " + what + ") of a new object", ShiftSignatures::new, x -> x.faults(1, what));
        }
    }

    private static void faultsOfNoSuchLength() {
        due.sentence("Promise 17: IllegalArgument");
        for (int m : NO_LENGTHS) {
            for (int what = 0; what <= 3; what++) {
                int w = what;
                due.badArgument("faults(" + m + ", " + w + ")", Made::small, x -> x.faults(m, w));
                due.badArgument("faults(" + m + ", " + w + ") of a new object", ShiftSignatures::new, x -> x.faults(m, w));
            }
        }
    }

    private static void firsts() {
        due.sentence("Promise 18: The pattern, by number in a session of m (from 0), at which a fault is SEEN first");
        ShiftSignatures x = Made.small();
        int[] at = {3, 1, 3, 0, 3, 0};
        for (int fault = 0; fault < 6; fault++) {
            for (int m = at[fault] + 1; m <= 8; m++) {
                due.answer("first(" + m + ", " + fault + ")", x.first(m, fault), at[fault]);
            }
            due.answer("first(256, " + fault + ")", x.first(256, fault), at[fault]);
        }
        // Stuck at 0 is seen at pattern 31 first, where x^31 is in the register for the first time.
        ShiftSignatures late = Made.of(0x100000001L, 1L << 31);
        late.output(0);
        due.answer("first(32, 0)", late.first(32, 0), 31);
        due.answer("first(256, 0)", late.first(256, 0), 31);
    }

    private static void firstOfFaultsNotSeen() {
        due.sentence("Promise 18: NONE if it is not");
        ShiftSignatures x = Made.small();
        int[] at = {3, 1, 3, 0, 3, 0};
        for (int fault = 0; fault < 6; fault++) {
            for (int m = 0; m <= at[fault]; m++) {
                due.answer("first(" + m + ", " + fault + ")", x.first(m, fault), ShiftSignatures.NONE);
            }
        }
        x.load(0);
        due.answer("first(256, 0) of register 0", x.first(256, 0), ShiftSignatures.NONE);
        due.answer("first(256, 5) of register 0", x.first(256, 5), 0);
        due.answer("first(256, 1) without outputs", Made.of(19, 1).first(256, 1), ShiftSignatures.NONE);
        // What is seen but not found is seen all the same.
        ShiftSignatures hidden = new ShiftSignatures();
        hidden.channel(1);
        hidden.output(0);
        due.answer("first(2, 0), which is not found", hidden.first(2, 0), 0);
    }

    private static void firstOfNoSuchFault() {
        due.sentence("Promise 18: IndexOutOfBounds: there is no such fault");
        for (int fault : NO_FAULTS) {
            due.badIndex("first(0, " + fault + ")", Made::small, x -> x.first(0, fault));
            due.badIndex("first(7, " + fault + ")", Made::small, x -> x.first(7, fault));
            due.badIndex("first(256, " + fault + ")", Made::small, x -> x.first(256, fault));
        }
        due.badIndex("first(7, 64) of 32 lines", Made::full, x -> x.first(7, 64));
    }

    /** The document lets answer and session have "none", but not first: NONE is no line that is stuck. */
    private static void firstOfNoFault() {
        due.sentence("Promise 18: at which a fault is SEEN; there is no such fault (as NONE)");
        for (int m : new int[] {0, 1, 256}) {
            due.badIndex("first(" + m + ", NONE)", Made::small, x -> x.first(m, ShiftSignatures.NONE));
            due.badIndex("first(" + m + ", NONE) of a new object", ShiftSignatures::new, x -> x.first(m, -1));
        }
    }

    private static void firstOfNoSuchLength() {
        due.sentence("Promise 18: IllegalArgument");
        for (int m : NO_LENGTHS) {
            for (int fault = 0; fault < 6; fault++) {
                int f = fault;
                due.badArgument("first(" + m + ", " + f + ")", Made::small, x -> x.first(m, f));
            }
        }
    }

    private static ShiftSignatures bitZeroOfThree() {
        ShiftSignatures x = Made.of(11, 1);
        x.output(0);
        return x;
    }
}
