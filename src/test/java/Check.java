import java.util.function.Function;
import java.util.function.Supplier;

/** Counts and prints what is not as it is due; a test's main method ends with end(). */
final class Check {
    private static int checks = 0;
    private static int wrong = 0;

    private Check() {
    }

    static void same(String what, Object got, Object due) {
        checks++;
        if (!got.equals(due)) {
            wrong++;
            System.out.println(what + ": got " + got + ", due is " + due);
        }
    }

    /** The answer of a call: what it returns, or the exact class of what it throws. */
    static Object answerOf(Supplier<?> call) {
        try {
            return call.get();
        } catch (RuntimeException thrown) {
            return thrown.getClass();
        }
    }

    static void refused(String what, Class<? extends RuntimeException> due, Supplier<?> call) {
        same(what, answerOf(call), due);
    }

    /** The call throws on a fresh ledger, and the ledger looks afterwards as it did before. */
    static void leavesAsIs(String what, Class<? extends RuntimeException> due,
            Supplier<ClauseLedger> start, Function<ClauseLedger, ?> call) {
        ClauseLedger ledger = start.get();
        String before = Picture.of(ledger);
        refused(what, due, () -> call.apply(ledger));
        same(what + ", picture", Picture.of(ledger), before);
        same(what + ", undo", answerOf(ledger::undo), answerOf(start.get()::undo));
    }

    static void end() {
        System.out.println(checks + " checks, " + wrong + " wrong");
        if (wrong != 0) {
            System.exit(1);
        }
    }
}
