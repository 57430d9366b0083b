import java.util.function.Supplier;

/** Counts and prints the answers that are not due. */
final class Checks {
    /** A call that may throw. */
    interface Call {
        long answer();
    }

    /** A call of an object, which may throw. */
    interface CallOf {
        long answer(FlipPolygons x);
    }

    static final String INDEX = "IndexOutOfBoundsException";
    static final String ARGUMENT = "IllegalArgumentException";
    static final String STATE = "IllegalStateException";

    private int made;
    private int wrong;
    private String about = "";

    /** Names what the next checks are about. */
    void about(String what) {
        about = what;
    }

    void due(String call, long got, long want) {
        tell(got == want, call + " answered " + got + ", due is " + want);
    }

    void due(String call, String got, String want) {
        tell(got.equals(want), call + " answered " + got + ", due is " + want);
    }

    void isTrue(String claim, boolean holds) {
        tell(holds, claim + " does not hold");
    }

    /** Checks that the call throws just this exception, and that the digest stays as it was. */
    void dueThrow(FlipPolygons object, String name, String exception, Call call) {
        long before = object.digest();
        due(name, outcome(call), exception);
        due("digest() after " + name, object.digest(), before);
    }

    /**
     * Checks that the call throws just this exception, and that afterwards nothing at all can be
     * told from a twin of the object that was not called.
     */
    void dueRefusal(Supplier<FlipPolygons> scene, String name, String exception, CallOf call) {
        FlipPolygons object = scene.get();
        due(name, outcome(() -> call.answer(object)), exception);
        due("all that is seen after " + name, Scenes.deepLook(object), Scenes.deepLook(scene.get()));
    }

    /** The answer as a text, or the simple name of what the call throws. */
    static String outcome(Call call) {
        try {
            return Long.toString(call.answer());
        } catch (RuntimeException thrown) {
            return thrown.getClass().getSimpleName();
        }
    }

    private void tell(boolean right, String fault) {
        made++;
        if (!right) {
            wrong++;
            if (wrong <= 50) {
                System.out.println(about + ": " + fault);
            }
        }
    }

    /** Ends the test with exit code 1 if an answer was not the due one. */
    void end() {
        System.out.println(made + " checks, " + wrong + " wrong");
        if (wrong != 0) {
            System.exit(1);
        }
    }
}
