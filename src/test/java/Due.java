/** Compares answers with those that are due, and counts the wrong ones. */
final class Due {
    interface Call {
        long answer();
    }

    private static int wrong = 0;
    private static String sentence = "";

    private Due() {
    }

    /** The test of one sentence of the document; what it throws unasked is a wrong answer of that one alone. */
    static void sentence(String words, Runnable test) {
        sentence = "\"" + words + "\": ";
        try {
            test.run();
        } catch (RuntimeException e) {
            wrong("unasked", "threw " + e);
        }
        sentence = "";
    }

    static void is(String what, long want, long got) {
        if (want != got) {
            wrong(what, "answered " + got + ", due is " + want);
        }
    }

    static void is(String what, boolean want, boolean got) {
        is(what, want ? 1 : 0, got ? 1 : 0);
    }

    static void isDouble(String what, double want, double got) {
        if (Double.compare(want, got) != 0) {
            wrong(what, "answered " + got + ", due is " + want);
        }
    }

    static void noPlace(String what, PepperboxTable x, Call call) {
        fails(what, x, IndexOutOfBoundsException.class, call);
    }

    static void noArgument(String what, PepperboxTable x, Call call) {
        fails(what, x, IllegalArgumentException.class, call);
    }

    static void noState(String what, PepperboxTable x, Call call) {
        fails(what, x, IllegalStateException.class, call);
    }

    /** The call must throw exactly that exception, and leave the digest; three calls of the 512 that an object has. */
    private static void fails(String what, PepperboxTable x, Class<?> kind, Call call) {
        long before = x.digest();
        try {
            wrong(what, "answered " + call.answer() + ", due is " + kind.getName());
        } catch (RuntimeException e) {
            if (e.getClass() != kind) {
                wrong(what, "threw " + e + ", due is " + kind.getName());
            }
        }
        if (before != x.digest()) {
            wrong(what, "changed something though it throws");
        }
    }

    static void wrong(String what, String how) {
        wrong++;
        if (wrong <= 40) {
            System.out.println(sentence + what + ": " + how);
        }
    }

    static void end(String test) {
        System.out.println(test + ": " + (wrong == 0 ? "all answers are as due" : wrong + " answers are wrong"));
        if (wrong != 0) {
            System.exit(1);
        }
    }
}
