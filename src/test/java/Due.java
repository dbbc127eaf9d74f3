/** Compares answers with those that are due, and counts the wrong ones. */
final class Due {
    interface Call {
        long answer();
    }

    private static int wrong = 0;

    private Due() {
    }

    static void is(String what, long want, long got) {
        if (want != got) {
            wrong(what, "answered " + got + ", due is " + want);
        }
    }

    static void is(String what, boolean want, boolean got) {
        is(what, want ? 1 : 0, got ? 1 : 0);
    }

    static void isDouble(String what, double want, double got) {
        if (Double.compare(want, got) != 0) {
            wrong(what, "answered " + got + ", due is " + want);
        }
    }

    static void noPlace(String what, PepperboxTable x, Call call) {
        fails(what, x, IndexOutOfBoundsException.class, call);
    }

    static void noArgument(String what, PepperboxTable x, Call call) {
        fails(what, x, IllegalArgumentException.class, call);
    }

    static void noState(String what, PepperboxTable x, Call call) {
        fails(what, x, IllegalStateException.class, call);
    }

    /** The call must throw exactly that exception, and change nothing that can be asked. */
    private static void fails(String what, PepperboxTable x, Class<?> kind, Call call) {
        long[] before = Snapshot.of(x);
        try {
            wrong(what, "answered " + call.answer() + ", due is " + kind.getName());
        } catch (RuntimeException e) {
            if (e.getClass() != kind) {
                wrong(what, "threw " + e + ", due is " + kind.getName());
            }
        }
        if (!java.util.Arrays.equals(before, Snapshot.of(x))) {
            wrong(what, "changed something though it throws");
        }
    }

    static void wrong(String what, String how) {
        wrong++;
        if (wrong <= 40) {
            System.out.println(what + ": " + how);
        }
    }

    static void end(String test) {
        System.out.println(test + ": " + (wrong == 0 ? "all answers are as due" : wrong + " answers are wrong"));
        if (wrong != 0) {
            System.exit(1);
        }
    }
}
