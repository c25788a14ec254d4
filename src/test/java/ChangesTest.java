import java.util.ArrayList;
import java.util.List;
import java.util.function.Consumer;

/** What goes, what stays, which exception wins, what m may be: the last paragraph of the terms. */
public final class ChangesTest {
    private static final Due due = new Due();

    public static void main(String[] args) {
        due.run(
                ChangesTest::polynomialToldAnew,
                ChangesTest::samePolynomialToldAnew,
                ChangesTest::roomAgainBehindAPolynomial,
                ChangesTest::channelDropsTheCircuit,
                ChangesTest::roomAgainBehindAChannel,
                ChangesTest::throwingChangesNothing,
                ChangesTest::throwingSpendsNoRoom,
                ChangesTest::askingChangesNothing,
                ChangesTest::argumentWinsOverStateInChannel,
                ChangesTest::argumentWinsInGate,
                ChangesTest::indexWinsOverStateInGate,
                ChangesTest::indexWinsOverStateInOutput,
                ChangesTest::indexWinsOverLength,
                ChangesTest::noSuchLine,
                ChangesTest::lengthsThatMayBe,
                ChangesTest::lengthsThatMayNotBe,
                ChangesTest::fiveHundredAndTwelveCalls);
    }

    private static void polynomialToldAnew() {
        due.sentence("Terms: When p is told anew, the register is 1, channels and the circuit are gone");
        for (long p : Made.PRIMITIVE) {
            ShiftSignatures x = Made.full();
            x.polynomial(p);
            due.same("a full object behind polynomial(" + p + ")", State.of(x), State.of(Made.of(p)));
        }
    }

    private static void samePolynomialToldAnew() {
        due.sentence("Terms: When p is told anew (the same p, too), the register is 1, channels and the circuit are gone");
        ShiftSignatures x = Made.full();
        due.answer("polynomial(285)", x.polynomial(0x11D), 8);
        due.answer("pattern()", x.pattern(), 0);
        due.answer("faults(9, 0)", x.faults(9, 0), 0);
        due.answer("answer(-1, NONE)", x.answer(-1, -1), 0);
        due.answer("session(9, NONE)", x.session(9, -1), 0);
        due.answer("load(0)", x.load(0), 1);
        ShiftSignatures first = new ShiftSignatures();
        first.load(0);
        first.channel(1);
        first.output(0);
        first.polynomial(3);
        due.same("x + 1 told to an object that has it", State.of(first), State.of(new ShiftSignatures()));
    }

    private static void roomAgainBehindAPolynomial() {
        due.sentence("Terms: When p is told anew, channels and the circuit are gone");
        ShiftSignatures x = Made.full();
        x.polynomial(0x11D);
        for (int c = 0; c < 8; c++) {
            due.answer("channel " + c, x.channel(1 << c), c);
        }
        x.load(0x35);
        Made.fill(x, 8);
        due.same("an object filled a second time", State.of(x), State.of(Made.full()));
    }

    /** The register and the channels before it stay; outputs of channels' lines go, too. */
    private static void channelDropsTheCircuit() {
        due.sentence("Terms: when a channel comes, the circuit is gone");
        for (int channels = 1; channels <= 7; channels++) {
            ShiftSignatures x = new ShiftSignatures();
            ShiftSignatures bare = new ShiftSignatures();
            for (ShiftSignatures each : new ShiftSignatures[] {x, bare}) {
                each.polynomial(0x11D);
                each.load(0x77);
                for (int c = 0; c < channels; c++) {
                    each.channel(0xC5 >> c);
                }
            }
            Made.fill(x, channels);
            due.answer("channel(9)", x.channel(9), channels);
            bare.channel(9);
            due.same("an object with " + (channels + 1) + " channels", State.of(x), State.of(bare));
        }
        ShiftSignatures y = Made.of(19, 1);
        y.output(0);
        due.answer("answer(1, NONE)", y.answer(1, -1), 1);
        y.channel(2);
        due.answer("answer(3, NONE) behind a channel", y.answer(3, -1), 0);
        due.answer("output(1) behind a channel", y.output(1), 0);
    }

    private static void roomAgainBehindAChannel() {
        due.sentence("Terms: when a channel comes, the circuit is gone");
        ShiftSignatures x = Made.of(0x11D);
        x.load(0x35);
        for (int c = 0; c < 8; c++) {
            due.answer("channel " + c, x.channel(1 << c), c);
            // Not behind each channel, as the object has but 512 calls.
            if (c % 3 == 0 || c == 7) {
                Made.fill(x, c + 1);
            }
        }
        due.same("an object filled four times", State.of(x), State.of(Made.full()));
    }

    private static void throwingChangesNothing() {
        due.sentence("Terms: A call that throws changes nothing");
        List<Consumer<ShiftSignatures>> calls = refusedByFullAndSmall();
        for (int k = 0; k < calls.size(); k++) {
            ShiftSignatures small = Made.small();
            ShiftSignatures full = Made.full();
            due.answer("call " + k + " throws in a small object", Due.thrownBy(small, calls.get(k)) != null, true);
            due.answer("call " + k + " throws in a full object", Due.thrownBy(full, calls.get(k)) != null, true);
            due.same("a small object behind call " + k, State.of(small), State.of(Made.small()));
            due.same("a full object behind call " + k, State.of(full), State.of(Made.full()));
        }
        ShiftSignatures all = Made.full();
        for (Consumer<ShiftSignatures> call : calls) {
            Due.thrownBy(all, call);
        }
        due.same("a full object behind all of them", State.of(all), State.of(Made.full()));
    }

    /** Each is wrong in both objects, whether there is room or not. */
    private static List<Consumer<ShiftSignatures>> refusedByFullAndSmall() {
        List<Consumer<ShiftSignatures>> calls = new ArrayList<>();
        calls.add(x -> x.polynomial(1));
        calls.add(x -> x.polynomial(6));
        calls.add(x -> x.polynomial(0x200000001L));
        calls.add(x -> x.times(256, 1));
        calls.add(x -> x.times(1, 256));
        calls.add(x -> x.power(256, 1));
        calls.add(x -> x.power(1, -1));
        calls.add(x -> x.load(256));
        calls.add(x -> x.steps(-1));
        calls.add(x -> x.channel(256));
        calls.add(x -> x.gate(6, 0, 0));
        calls.add(x -> x.gate(0, 32, 0));
        calls.add(x -> x.gate(0, 0, 32));
        calls.add(x -> x.gate(5, 32, 0));
        calls.add(x -> x.output(32));
        calls.add(x -> x.answer(1, 64));
        calls.add(x -> x.session(1, 64));
        calls.add(x -> x.session(257, 1));
        calls.add(x -> x.faults(1, 4));
        calls.add(x -> x.faults(257, 1));
        calls.add(x -> x.first(1, 64));
        calls.add(x -> x.first(257, 1));
        return calls;
    }

    /** What is refused takes no number: the next call that is right has the one that is due. */
    private static void throwingSpendsNoRoom() {
        due.sentence("Terms: A call that throws changes nothing");
        ShiftSignatures x = Made.of(19);
        for (int c = 0; c < 8; c++) {
            due.answer("a refused channel", Due.thrownBy(x, y -> y.channel(16)) != null, true);
            due.answer("channel " + c, x.channel(c), c);
        }
        for (int g = 0; g < 24; g++) {
            due.answer("a refused gate", Due.thrownBy(x, y -> y.gate(0, 0, 32)) != null, true);
            due.answer("gate " + g, x.gate(0, 0, 0), 8 + g);
        }
        for (int i = 0; i < 16; i++) {
            due.answer("a refused output", Due.thrownBy(x, y -> y.output(32)) != null, true);
            due.answer("output " + i, x.output(i), i);
        }
        due.answer("a refused load", Due.thrownBy(x, y -> y.load(16)) != null, true);
        due.answer("refused steps", Due.thrownBy(x, y -> y.steps(-1)) != null, true);
        due.answer("load(7) behind them", x.load(7), 1);
    }

    private static void askingChangesNothing() {
        due.sentence("Not promised: Nothing beyond the answers and state changes described");
        ShiftSignatures x = Made.full();
        x.times(200, 100);
        x.power(200, 100);
        x.residue(-1);
        x.irreducible();
        x.primitive();
        x.order();
        x.steps(0);
        x.pattern();
        x.answer(0x99, -1);
        x.answer(0x99, 63);
        x.session(256, -1);
        x.session(256, 62);
        for (int what = 0; what <= 3; what++) {
            x.faults(256, what);
        }
        x.first(256, 0);
        due.same("a full object behind all that asks", State.of(x), State.of(Made.full()));
    }

    private static void argumentWinsOverStateInChannel() {
        due.sentence("Terms: where it lists more than one exception, the first one wins (channel)");
        for (long mask : new long[] {256, Long.MAX_VALUE, -1, Long.MIN_VALUE}) {
            due.badArgument("channel(" + mask + ") with 8", Made::eightChannels, x -> x.channel(mask));
            due.badArgument("channel(" + mask + ") with 8 and a circuit", Made::full, x -> x.channel(mask));
        }
    }

    private static void argumentWinsInGate() {
        due.sentence("Terms: where it lists more than one exception, the first one wins (gate, the kind)");
        for (int kind : new int[] {-1, 6, Integer.MAX_VALUE, Integer.MIN_VALUE}) {
            due.badArgument("gate(" + kind + ", 99, 0)", Made::small, x -> x.gate(kind, 99, 0));
            due.badArgument("gate(" + kind + ", 0, 99)", Made::small, x -> x.gate(kind, 0, 99));
            due.badArgument("gate(" + kind + ", -1, -1)", Made::small, x -> x.gate(kind, -1, -1));
            due.badArgument("gate(" + kind + ", 0, 0) of a new object", ShiftSignatures::new, x -> x.gate(kind, 0, 0));
            due.badArgument("gate(" + kind + ", 0, 0) with 24", Made::full, x -> x.gate(kind, 0, 0));
            due.badArgument("gate(" + kind + ", 32, 32) with 24", Made::full, x -> x.gate(kind, 32, 32));
        }
    }

    private static void indexWinsOverStateInGate() {
        due.sentence("Terms: where it lists more than one exception, the first one wins (gate, the lines)");
        for (int line : new int[] {32, 33, Integer.MAX_VALUE, -1, Integer.MIN_VALUE}) {
            for (int kind = 0; kind <= 5; kind++) {
                int k = kind;
                due.badIndex("gate(" + k + ", " + line + ", 0) with 24", Made::full, x -> x.gate(k, line, 0));
                if (k != ShiftSignatures.NOT) {
                    due.badIndex("gate(" + k + ", 0, " + line + ") with 24", Made::full, x -> x.gate(k, 0, line));
                }
            }
        }
    }

    private static void indexWinsOverStateInOutput() {
        due.sentence("Terms: where it lists more than one exception, the first one wins (output)");
        for (int line : new int[] {32, 33, Integer.MAX_VALUE, -1, Integer.MIN_VALUE}) {
            due.badIndex("output(" + line + ") with 16", Made::full, x -> x.output(line));
        }
    }

    private static void indexWinsOverLength() {
        due.sentence("Terms: where it lists more than one exception, the first one wins (session, faults, first)");
        for (int m : new int[] {-1, 257, Integer.MAX_VALUE, Integer.MIN_VALUE}) {
            for (int none : new int[] {6, Integer.MAX_VALUE, -2, Integer.MIN_VALUE}) {
                due.badIndex("session(" + m + ", " + none + ")", Made::small, x -> x.session(m, none));
                due.badIndex("faults(" + m + ", " + none + ")", Made::small, x -> x.faults(m, none));
                due.badIndex("first(" + m + ", " + none + ")", Made::small, x -> x.first(m, none));
            }
            due.badIndex("faults(" + m + ", 4)", Made::small, x -> x.faults(m, 4));
            due.badIndex("faults(" + m + ", -1)", Made::small, x -> x.faults(m, -1));
        }
    }

    private static void noSuchLine() {
        due.sentence("Terms: IndexOutOfBounds: there is no such line");
        for (int lines = 0; lines <= 8; lines++) {
            int many = lines;
            due.badIndex("output(" + many + ")", () -> channels(many), x -> x.output(many));
            due.badIndex("gate(NOT, " + many + ", 0)", () -> channels(many), x -> x.gate(5, many, 0));
            due.badIndex("output(-1) of " + many, () -> channels(many), x -> x.output(-1));
            if (many > 0) {
                due.answer("output(" + (many - 1) + ")", channels(many).output(many - 1), 0);
                due.answer("gate(AND, " + (many - 1) + ", 0)", channels(many).gate(0, many - 1, 0), many);
                due.badIndex("gate(AND, 0, " + many + ")", () -> channels(many), x -> x.gate(0, 0, many));
            }
        }
    }

    private static void lengthsThatMayBe() {
        due.sentence("Terms: IllegalArgument with m: it is not 0 .. 256 (and none where it is)");
        for (int m : new int[] {0, 1, 255, 256}) {
            ShiftSignatures x = Made.small();
            due.answer("session(" + m + ", 0)", x.session(m, 0), 0);
            due.answer("faults(" + m + ", 0)", x.faults(m, 0), 6);
            due.answer("first(" + m + ", 5)", x.first(m, 5), m == 0 ? -1 : 0);
        }
        // Line 2 stuck at 1: 256 ones are 36 times seven, which leave 0, and four more, which leave 4.
        due.answer("session(256, 5)", Made.small().session(256, 5), 4);
    }

    private static void lengthsThatMayNotBe() {
        due.sentence("Terms: IllegalArgument with m: it is not 0 .. 256");
        for (int m : new int[] {-1, 257, -256, 512, Integer.MAX_VALUE, Integer.MIN_VALUE}) {
            due.badArgument("session(" + m + ", NONE)", Made::full, x -> x.session(m, -1));
            due.badArgument("session(" + m + ", 63)", Made::full, x -> x.session(m, 63));
            due.badArgument("first(" + m + ", 63)", Made::full, x -> x.first(m, 63));
            for (int what = 0; what <= 3; what++) {
                int w = what;
                due.badArgument("faults(" + m + ", " + w + ")", Made::full, x -> x.faults(m, w));
            }
        }
    }

    private static void fiveHundredAndTwelveCalls() {
        due.sentence("What it is: An object is used for at most 512 calls after it has been made");
        ShiftSignatures x = new ShiftSignatures();
        x.polynomial(19);
        long held = 1;
        for (int call = 2; call <= 512; call++) {
            held = held << 1 >> 4 == 1 ? held << 1 ^ 19 : held << 1;
            due.answer("call " + call + ", steps(1)", x.steps(1), held);
        }
        ShiftSignatures y = new ShiftSignatures();
        for (int call = 1; call < 512; call += 7) {
            due.answer("call " + call + ", polynomial(11)", y.polynomial(11), 3);
            due.answer("channel(1) behind it", y.channel(1), 0);
            due.answer("gate(NOT, 0, 0) behind it", y.gate(5, 0, 0), 1);
            due.answer("output(1) behind it", y.output(1), 0);
            due.answer("load(2) behind it", y.load(2), 1);
            due.answer("answer(0, 3) behind it", y.answer(0, 3), 1);
            due.answer("session(1, NONE) behind it", y.session(1, -1), 1);
        }
        due.answer("call 512, order()", y.order(), 7);
    }

    private static ShiftSignatures channels(int many) {
        ShiftSignatures x = Made.of(19);
        for (int c = 0; c < many; c++) {
            x.channel(1);
        }
        return x;
    }
}
