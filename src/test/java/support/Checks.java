package support;

/** Counts what is not as due, prints it, and ends the test with exit code 1 if there was any. */
public final class Checks {
    public interface Call {
        long answer();
    }

    public static final Class<? extends Throwable> INDEX = IndexOutOfBoundsException.class;
    public static final Class<? extends Throwable> ARGUMENT = IllegalArgumentException.class;
    public static final Class<? extends Throwable> STATE = IllegalStateException.class;

    private String part = "";
    private int asked;
    private int wrong;

    public void begin(String name) {
        part = name;
    }

    public void due(String what, long got, long want) {
        asked++;
        if (got != want) {
            fail(what + " answered " + got + ", due is " + want);
        }
    }

    public void dueText(String what, String got, String want) {
        asked++;
        if (!got.equals(want)) {
            fail(what + " answered " + got + ", due is " + want);
        }
    }

    /** The class must be the very one: a subclass would be the machine's own exception. */
    public void dueThrow(String what, Class<? extends Throwable> want, Call call) {
        asked++;
        try {
            fail(what + " answered " + call.answer() + ", due is " + want.getSimpleName());
        } catch (RuntimeException e) {
            if (e.getClass() != want) {
                fail(what + " threw " + e + ", due is " + want.getSimpleName());
            }
        }
    }

    private void fail(String text) {
        wrong++;
        if (wrong <= 50) {
            System.out.println(part + ": " + text);
        }
    }

    public void end() {
        System.out.println(asked + " answers looked at, " + wrong + " not as due");
        if (wrong != 0 || asked == 0) {
            System.exit(1);
        }
    }
}
