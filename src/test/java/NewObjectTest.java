/** Promise 1, and what the terms say of an object "at first". */
public final class NewObjectTest {
    private static final Due due = new Due();

    public static void main(String[] args) {
        due.run(
                NewObjectTest::polynomialAtFirst,
                NewObjectTest::registerAtFirst,
                NewObjectTest::noChannels,
                NewObjectTest::noCircuit,
                NewObjectTest::objectsShareNothing);
    }

    private static void polynomialAtFirst() {
        due.sentence("Promise 1: p is x + 1");
        ShiftSignatures x = new ShiftSignatures();
        due.answer("residue(1)", x.residue(1), 1);
        due.answer("residue(2)", x.residue(2), 1);
        due.answer("residue(3)", x.residue(3), 0);
        due.answer("irreducible()", x.irreducible(), true);
        due.answer("primitive()", x.primitive(), true);
        due.answer("order()", x.order(), 1);
        due.answer("times(1, 1)", x.times(1, 1), 1);
        due.answer("steps(1)", x.steps(1), 1);
        due.badArgument("times(2, 1)", ShiftSignatures::new, y -> y.times(2, 1));
        due.badArgument("load(2)", ShiftSignatures::new, y -> y.load(2));
        due.same("a new object", State.of(new ShiftSignatures()), State.of(Made.of(3)));
    }

    private static void registerAtFirst() {
        due.sentence("Promise 1: the register is 1");
        due.answer("load(0)", new ShiftSignatures().load(0), 1);
        due.answer("steps(0)", new ShiftSignatures().steps(0), 1);
        ShiftSignatures x = new ShiftSignatures();
        x.channel(1);
        due.answer("pattern()", x.pattern(), 1);
    }

    private static void noChannels() {
        due.sentence("Promise 1: no channels");
        ShiftSignatures x = new ShiftSignatures();
        due.answer("pattern()", x.pattern(), 0);
        due.answer("faults(0, 0)", x.faults(0, 0), 0);
        due.answer("channel(1)", x.channel(1), 0);
    }

    private static void noCircuit() {
        due.sentence("Promise 1: no circuit");
        ShiftSignatures x = new ShiftSignatures();
        int[] faults = {0, 0, 0, -1};
        for (int what = 0; what <= 3; what++) {
            due.answer("faults(256, " + what + ")", x.faults(256, what), faults[what]);
        }
        due.answer("answer(-1, NONE)", x.answer(-1, -1), 0);
        due.answer("session(256, NONE)", x.session(256, -1), 0);
        due.badIndex("gate(NOT, 0, 0)", ShiftSignatures::new, y -> y.gate(5, 0, 0));
        due.badIndex("gate(AND, 0, 0)", ShiftSignatures::new, y -> y.gate(0, 0, 0));
        due.badIndex("output(0)", ShiftSignatures::new, y -> y.output(0));
        for (int fault = 0; fault <= 1; fault++) {
            int f = fault;
            due.badIndex("answer(0, " + f + ")", ShiftSignatures::new, y -> y.answer(0, f));
            due.badIndex("session(0, " + f + ")", ShiftSignatures::new, y -> y.session(0, f));
            due.badIndex("first(0, " + f + ")", ShiftSignatures::new, y -> y.first(0, f));
        }
    }

    private static void objectsShareNothing() {
        due.sentence("Promise 1: of each new object");
        ShiftSignatures x = Made.full();
        String before = State.of(Made.full());
        ShiftSignatures other = new ShiftSignatures();
        due.answer("another object's register", other.load(0), 1);
        due.answer("another object's first channel", other.channel(1), 0);
        due.answer("another object's first gate", other.gate(5, 0, 0), 1);
        due.answer("another object's first output", other.output(1), 0);
        due.answer("another object's answer", other.answer(0, -1), 1);
        due.same("the first object", State.of(x), before);
    }
}
