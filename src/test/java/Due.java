/** What the tests share: answers are held against those that are due, and the wrong ones printed. */
final class Due {
    interface Call {
        void make();
    }

    private int wrong;

    void answer(String call, long got, long want) {
        if (got != want) {
            tell(call + " answered " + got + ", due is " + want);
        }
    }

    void answer(String call, boolean got, boolean want) {
        answer(call, got ? 1 : 0, want ? 1 : 0);
    }

    /** The call throws just this exception, and leaves all that x shows as it was. */
    void refusal(String call, ShiftSignatures x, Class<? extends RuntimeException> want, Call made) {
        String before = shown(x);
        Class<?> got = null;
        try {
            made.make();
        } catch (RuntimeException thrown) {
            got = thrown.getClass();
        }
        if (got != want) {
            tell(call + " threw " + got + ", due is " + want);
        }
        String after = shown(x);
        if (!after.equals(before)) {
            tell(call + " threw and changed " + before + " to " + after);
        }
    }

    void tell(String what) {
        wrong++;
        if (wrong <= 50) {
            System.out.println(what);
        }
    }

    void end() {
        if (wrong != 0) {
            System.out.println(wrong + " answers are not as due");
            System.exit(1);
        }
    }

    private static String shown(ShiftSignatures x) {
        return "p by " + x.residue(1L << 62) + " " + x.residue(1L << 41) + " " + x.residue(-1L)
                + ", register " + x.steps(0) + ", pattern " + x.pattern() + ", faults " + x.faults(0, 0)
                + ", answers " + x.answer(0, -1) + " " + x.answer(-1, -1) + " " + x.answer(0x55, -1)
                + ", session " + x.session(40, -1) + ", seen " + x.faults(40, 1);
    }
}
