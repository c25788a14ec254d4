import java.util.List;
import java.util.function.Consumer;
import java.util.function.Supplier;

/** What the tests share: answers are held against those that are due, and the wrong ones printed. */
final class Due {
    private static final int PRINTED = 50;

    private String sentence = "";
    private int wrong;

    /** Runs each test, whatever one before it threw, and ends the program with 1 if an answer was wrong. */
    void run(Runnable... tests) {
        for (Runnable test : tests) {
            try {
                test.run();
            } catch (RuntimeException thrown) {
                tell("a call threw " + thrown + " at " + List.of(thrown.getStackTrace()));
            }
        }
        end();
    }

    /** The words of the document that the answers from here on are held to. */
    void sentence(String words) {
        sentence = words;
    }

    void answer(String call, long got, long want) {
        if (got != want) {
            tell(call + " answered " + got + ", due is " + want);
        }
    }

    void answer(String call, boolean got, boolean want) {
        answer(call, got ? 1 : 0, want ? 1 : 0);
    }

    void same(String what, String got, String want) {
        if (!got.equals(want)) {
            tell(what + " is " + got + ", due is " + want);
        }
    }

    void badArgument(String call, Supplier<ShiftSignatures> maker, Consumer<ShiftSignatures> made) {
        refusal(call, maker, IllegalArgumentException.class, made);
    }

    void badIndex(String call, Supplier<ShiftSignatures> maker, Consumer<ShiftSignatures> made) {
        refusal(call, maker, IndexOutOfBoundsException.class, made);
    }

    void badState(String call, Supplier<ShiftSignatures> maker, Consumer<ShiftSignatures> made) {
        refusal(call, maker, IllegalStateException.class, made);
    }

    /**
     * The call throws just this exception, and leaves all as it is in an object made in the same way.
     * The objects are new each time, as nothing is promised of one behind its 512th call.
     */
    private void refusal(
            String call, Supplier<ShiftSignatures> maker, Class<?> want, Consumer<ShiftSignatures> made) {
        ShiftSignatures x = maker.get();
        Class<?> got = thrownBy(x, made);
        if (got != want) {
            tell(call + " threw " + got + ", due is " + want);
        }
        same("what is left behind " + call, State.of(x), State.of(maker.get()));
    }

    static Class<?> thrownBy(ShiftSignatures x, Consumer<ShiftSignatures> made) {
        try {
            made.accept(x);
        } catch (RuntimeException thrown) {
            return thrown.getClass();
        }
        return null;
    }

    void tell(String what) {
        wrong++;
        if (wrong <= PRINTED) {
            System.out.println((sentence.isEmpty() ? "" : "\"" + sentence + "\": ") + what);
        }
    }

    void end() {
        if (wrong != 0) {
            System.out.println(wrong + " answers are not as due");
            System.exit(1);
        }
    }
}
