package support;

/** Counts what is not as due, prints it, and ends the test with exit code 1 if there was any. */
public final class Checks {
    public interface Call {
        long answer();
    }

    public static final Class<? extends Throwable> INDEX = IndexOutOfBoundsException.class;
    public static final Class<? extends Throwable> ARGUMENT = IllegalArgumentException.class;
    public static final Class<? extends Throwable> STATE = IllegalStateException.class;

    private String part = "";
    private int asked;
    private int askedBefore;
    private int wrong;

    /** A part in which nothing is looked at would hold whatever the class does, so it counts as wrong. */
    public void begin(String name) {
        endPart();
        part = name;
        askedBefore = asked;
    }

    private void endPart() {
        if (!part.isEmpty() && asked == askedBefore) {
            fail("nothing was looked at");
        }
    }

    public void due(String what, long got, long want) {
        asked++;
        if (got != want) {
            fail(what + " answered " + got + ", due is " + want);
        }
    }

    public void dueText(String what, String got, String want) {
        asked++;
        if (!got.equals(want)) {
            fail(what + " answered " + got + ", due is " + want);
        }
    }

    public void dueNoThrow(String what, Call call) {
        asked++;
        try {
            call.answer();
        } catch (RuntimeException e) {
            fail(what + " threw " + e + ", due is an answer");
        }
    }

    /** The class must be the very one: a subclass would be the machine's own exception. */
    public void dueThrow(String what, Class<? extends Throwable> want, Call call) {
        asked++;
        try {
            fail(what + " answered " + call.answer() + ", due is " + want.getSimpleName());
        } catch (RuntimeException e) {
            if (e.getClass() != want) {
                fail(what + " threw " + e + ", due is " + want.getSimpleName());
            }
        }
    }

    private void fail(String text) {
        wrong++;
        if (wrong <= 50) {
            System.out.println(part + ": " + text);
        }
    }

    public void end() {
        endPart();
        System.out.println(asked + " answers looked at, " + wrong + " not as due");
        if (wrong != 0 || asked == 0) {
            System.exit(1);
        }
    }
}
