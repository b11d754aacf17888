/** Compares answers with what is due, and ends a test. */
public final class Due {
    /** A call that is to be answered or to throw. */
    public interface Call {
        long answer();
    }

    private static int wrong = 0;

    private Due() {
    }

    public static void is(String what, long got, long want) {
        if (got != want) {
            report(what + " answered " + got + ", due is " + want);
        }
    }

    public static void is(String what, double got, double want) {
        if (got != want) {
            report(what + " answered " + got + ", due is " + want);
        }
    }

    public static void isTrue(String what, boolean holds) {
        if (!holds) {
            report(what + " does not hold");
        }
    }

    /** Also tells if the call, though it throws, changes the state. */
    public static void thrown(String what, DrawerRing ring, Class<? extends RuntimeException> want, Call call) {
        long before = ring.digest();
        Class<?> got = null;
        try {
            call.answer();
        } catch (RuntimeException e) {
            got = e.getClass();
        }
        if (got != want) {
            report(what + " threw " + got + ", due is " + want);
        }
        is(what + ": digest behind the exception", ring.digest(), before);
    }

    public static void noIndex(String what, DrawerRing ring, Call call) {
        thrown(what, ring, IndexOutOfBoundsException.class, call);
    }

    public static void noArgument(String what, DrawerRing ring, Call call) {
        thrown(what, ring, IllegalArgumentException.class, call);
    }

    public static void noState(String what, DrawerRing ring, Call call) {
        thrown(what, ring, IllegalStateException.class, call);
    }

    /** Appends a text to the buffer. */
    public static void type(DrawerRing ring, String text) {
        for (int k = 0; k < text.length(); k++) {
            ring.append(text.charAt(k));
        }
    }

    /** Replaces the buffer by a text. */
    public static void retype(DrawerRing ring, String text) {
        ring.clearBuffer();
        type(ring, text);
    }

    public static void report(String line) {
        wrong++;
        System.out.println(line);
    }

    public static int wrongSoFar() {
        return wrong;
    }

    public static void end() {
        System.out.println(wrong == 0 ? "all answers are as due" : wrong + " answers are not as due");
        if (wrong != 0) {
            System.exit(1);
        }
    }
}
