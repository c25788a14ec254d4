/** Promise 1. */
public final class NewObjectTest {
    public static void main(String[] args) {
        Due due = new Due();
        ShiftSignatures x = new ShiftSignatures();
        due.answer("residue(2) modulo x + 1", x.residue(2), 1);
        due.answer("residue(3) modulo x + 1", x.residue(3), 0);
        due.answer("irreducible() of x + 1", x.irreducible(), true);
        due.answer("primitive() of x + 1", x.primitive(), true);
        due.answer("order() of x + 1", x.order(), 1);
        due.answer("pattern() without channels", x.pattern(), 0);
        due.answer("faults(256, 0) without lines", x.faults(256, 0), 0);
        due.answer("faults(256, 1) without lines", x.faults(256, 1), 0);
        due.answer("faults(256, 2) without lines", x.faults(256, 2), 0);
        due.answer("faults(256, 3) without lines", x.faults(256, 3), -1);
        due.answer("answer(-1, NONE) without outputs", x.answer(-1, -1), 0);
        due.answer("session(256, NONE) without outputs", x.session(256, -1), 0);
        due.answer("steps(0) of a new object", x.steps(0), 1);
        due.refusal("times(2, 1) modulo x + 1", x, IllegalArgumentException.class, () -> x.times(2, 1));
        due.refusal("gate without lines", x, IndexOutOfBoundsException.class, () -> x.gate(5, 0, 0));
        due.refusal("output without lines", x, IndexOutOfBoundsException.class, () -> x.output(0));
        due.refusal("answer without faults", x, IndexOutOfBoundsException.class, () -> x.answer(0, 0));
        due.refusal("session without faults", x, IndexOutOfBoundsException.class, () -> x.session(1, 0));
        due.refusal("first without faults", x, IndexOutOfBoundsException.class, () -> x.first(1, 0));
        due.answer("load(0) of a new object", x.load(0), 1);

        ShiftSignatures other = new ShiftSignatures();
        due.answer("another object's register", other.steps(0), 1);
        due.answer("another object's first channel", other.channel(1), 0);
        due.answer("another object's pattern()", other.pattern(), 1);
        due.answer("the first object's pattern()", x.pattern(), 0);
        due.end();
    }
}
