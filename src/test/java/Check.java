import java.util.concurrent.Callable;

/** Counts and tells the answers that are not as due. */
final class Check {
    private static int asked = 0;
    private static int wrong = 0;

    private Check() {
    }

    static void is(String what, Object got, Object want) {
        asked++;
        if (!want.equals(got)) {
            wrong++;
            System.out.println(what + ": answered " + got + ", due is " + want);
        }
    }

    /** The answer of a call, or the very class of what it throws, so that no subclass passes for it. */
    static Object answer(Callable<?> call) {
        try {
            return call.call();
        } catch (Exception thrown) {
            return "throws." + thrown.getClass().getName();
        }
    }

    static void fails(String what, Class<? extends Exception> kind, Callable<?> call) {
        is(what, answer(call), "throws." + kind.getName());
    }

    static int wrong() {
        return wrong;
    }

    static void finish() {
        System.out.println(asked + " answers, " + wrong + " of them wrong");
        if (asked == 0 || wrong != 0) {
            System.exit(1);
        }
    }
}
