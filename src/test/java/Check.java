import java.lang.reflect.InvocationTargetException;
import java.lang.reflect.Method;
import java.lang.reflect.Modifier;
import java.util.function.Function;
import java.util.function.Supplier;

/** Counts and prints what is not as it is due; a test's main method ends with end(). */
final class Check {
    private static int checks = 0;
    private static int wrong = 0;

    private Check() {
    }

    static void same(String what, Object got, Object due) {
        checks++;
        if (!got.equals(due)) {
            wrong++;
            System.out.println(what + ": got " + got + ", due is " + due);
        }
    }

    /** The answer of a call: what it returns, or the exact class of what it throws. */
    static Object answerOf(Supplier<?> call) {
        try {
            return call.get();
        } catch (RuntimeException thrown) {
            return thrown.getClass();
        }
    }

    static void refused(String what, Class<? extends RuntimeException> due, Supplier<?> call) {
        same(what, answerOf(call), due);
    }

    /**
     * The call throws on a fresh ledger, and the ledger looks afterwards as a twin that did without it. A look
     * can change a ledger, so each has a pair of its own.
     */
    static void leavesAsIs(String what, Class<? extends RuntimeException> due,
            Supplier<ClauseLedger> start, Function<ClauseLedger, ?> call) {
        for (Look look : Look.values()) {
            ClauseLedger ledger = start.get();
            refused(what, due, () -> call.apply(ledger));
            same(what + ", " + look, look.at(ledger), look.at(start.get()));
        }
    }

    /** Runs every method of a test class that takes nothing, so that none is left out by oversight. */
    static void runAll(Class<?> tests) {
        for (Method method : tests.getDeclaredMethods()) {
            if (isTest(method)) {
                run(method);
            }
        }
    }

    static boolean isTest(Method method) {
        return method.getParameterCount() == 0 && method.getReturnType() == void.class && !method.isSynthetic()
                && Modifier.isStatic(method.getModifiers()) && !Modifier.isPrivate(method.getModifiers());
    }

    private static void run(Method method) {
        try {
            method.invoke(null);
        } catch (InvocationTargetException thrown) {
            thrown.getCause().printStackTrace(System.out);
            same(method.getName(), thrown.getCause().getClass(), "no exception");
        } catch (IllegalAccessException closed) {
            throw new IllegalStateException(closed);
        }
    }

    static void end() {
        System.out.println(checks + " checks, " + wrong + " wrong");
        if (wrong != 0) {
            System.exit(1);
        }
    }
}
