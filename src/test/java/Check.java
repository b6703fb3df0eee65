import java.util.function.Supplier;

/** Counts and prints what is not as due; used by all tests. */
final class Check {
    /** A call with one argument that a test varies. */
    interface Call {
        long on(ArchiveMirrors x, int value);
    }

    private static int wrong = 0;

    private Check() {
    }

    static void equal(String what, long got, long want) {
        if (got != want) {
            fail(what + " answered " + got + ", due is " + want);
        }
    }

    static void equal(String what, double got, double want) {
        if (Double.compare(got, want) != 0) {
            fail(what + " answered " + got + ", due is " + want);
        }
    }

    static void fail(String text) {
        wrong++;
        System.out.println(text);
    }

    /**
     * The call throws exactly this class, so that an exception of the machine, which is often of a
     * class below it, is not taken for it; and it changes nothing.
     */
    static void refused(ArchiveMirrors x, String what, Class<? extends RuntimeException> due, Runnable call) {
        long before = x.digest();
        try {
            call.run();
            fail(what + " threw nothing, due is " + due.getSimpleName());
        } catch (RuntimeException e) {
            if (e.getClass() != due) {
                fail(what + " threw " + e + ", due is " + due.getSimpleName());
            }
        }
        equal(what + ": the digest afterwards", x.digest(), before);
    }

    static void outOfBounds(ArchiveMirrors x, String what, Runnable call) {
        refused(x, what, IndexOutOfBoundsException.class, call);
    }

    static void badArgument(ArchiveMirrors x, String what, Runnable call) {
        refused(x, what, IllegalArgumentException.class, call);
    }

    static void badState(ArchiveMirrors x, String what, Runnable call) {
        refused(x, what, IllegalStateException.class, call);
    }

    /**
     * The call throws this, and changes nothing: the object then goes on as a twin does, on which the
     * call was never made.
     */
    static void refusedOf(Supplier<ArchiveMirrors> make, String what, Class<? extends RuntimeException> due, Call call,
            int value) {
        String name = what + " with " + value;
        ArchiveMirrors x = make.get();
        refused(x, name, due, () -> call.on(x, value));
        if (!States.future(x).equals(States.future(make.get()))) {
            fail(name + " is refused, but calls behind it answer otherwise than without it");
        }
    }

    /** Appends a text to the input buffer. */
    static void type(ArchiveMirrors x, String text) {
        for (int i = 0; i < text.length(); i++) {
            x.append(text.charAt(i));
        }
    }

    /** An archive with packages without dependencies, all in section 0. */
    static ArchiveMirrors archiveOf(int sections, int... sizes) {
        ArchiveMirrors x = new ArchiveMirrors();
        x.begin(sections);
        for (int size : sizes) {
            x.addPackage(0, size, 0);
        }
        return x;
    }

    /** Ends the test, with exit code 1 if something was not as due. */
    static void end() {
        if (wrong > 0) {
            System.out.println(wrong + " answers are not as due");
            System.exit(1);
        }
    }
}
