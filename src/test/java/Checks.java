import java.util.function.IntSupplier;

/** Compares answers with those that are due, and counts the wrong ones. */
final class Checks {
    /** A refusal told as an answer; no call answers less than -1. */
    static final int RANGE = -1001, STATE = -1002, NUMBER = -1003;

    private static int wrong = 0;
    private static int made = 0;

    private Checks() {
    }

    static void due(String call, long got, long want) {
        made++;
        if (got != want) {
            wrong++;
            System.out.println(call + " answered " + got + ", due is " + want);
        }
    }

    static void refusedRange(String call, Runnable made) {
        refused(call, IllegalArgumentException.class, made);
    }

    static void refusedState(String call, Runnable made) {
        refused(call, IllegalStateException.class, made);
    }

    static void refusedNumber(String call, Runnable made) {
        refused(call, IndexOutOfBoundsException.class, made);
    }

    static void refused(String call, Class<?> want, Runnable run) {
        made++;
        Class<?> got = null;
        try {
            run.run();
        } catch (RuntimeException e) {
            got = e.getClass();
            due(call + " is thrown by the class itself", isOwn(e) ? 1 : 0, 1);
        }
        if (got != want) {
            wrong++;
            System.out.println(call + " threw " + got + ", due is " + want);
        }
    }

    /** The call's answer, or which refusal it is; an exception that the document doesn't name is a number of its own. */
    static int answerOf(IntSupplier call) {
        try {
            return call.getAsInt();
        } catch (RuntimeException e) {
            return !isOwn(e) ? -2001 : e.getClass() == IllegalArgumentException.class ? RANGE
                : e.getClass() == IllegalStateException.class ? STATE
                : e.getClass() == IndexOutOfBoundsException.class ? NUMBER : -2000;
        }
    }

    /** Not thrown by the machine's or the library's code under a call of the class. */
    static boolean isOwn(RuntimeException e) {
        StackTraceElement[] trace = e.getStackTrace();
        return trace.length > 0 && trace[0].getClassName().equals("CoalHulks");
    }

    static void end() {
        System.out.println(made + " checks, " + wrong + " wrong");
        if (wrong != 0) {
            System.exit(1);
        }
    }
}
