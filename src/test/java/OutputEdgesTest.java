import java.util.NoSuchElementException;

/** The edges that promises 47 to 55 name, sentence by sentence. */
final class OutputEdgesTest {
    private static final Class<NoSuchElementException> NO_ELEMENT = NoSuchElementException.class;
    private static final Class<IndexOutOfBoundsException> INDEX = IndexOutOfBoundsException.class;
    private static final Class<IllegalArgumentException> ARGUMENT = IllegalArgumentException.class;
    private static final Class<IllegalStateException> STATE = IllegalStateException.class;
    private static final int LEAST = Integer.MIN_VALUE;
    private static final int GREATEST = Integer.MAX_VALUE;
    /** In a storied ledger: before the first id, repealed, not yet given, and far off. */
    private static final int[] NO_CLAUSE = {-1, 2, 5, LEAST, GREATEST};

    public static void main(String[] args) {
        Check.runAll(OutputEdgesTest.class);
        Check.end();
    }

    private static void rendered(ClauseLedger ledger, int clause, String due) {
        Check.same(due + ", length", ledger.renderClause(clause), due.length());
        Check.same(due, Picture.output(ledger), due);
    }

    // Promise 47: "Replaces the output text by a description of a clause: its section number, ":", its present text,
    // "~" and its sunset if it has one, and "!" if it is not in force on the present day, as in "12:abcg~20!"."
    static void descriptions() {
        ClauseLedger ledger = Ledgers.storied();
        rendered(ledger, 0, "1:cab~9");
        rendered(ledger, 1, "2:b~1!");
        rendered(ledger, 3, "4:d");
        rendered(ledger, 4, "50:e");
        ledger.setSunset(4, 2);
        rendered(ledger, 4, "50:e~2");
        ledger.advance(1);
        rendered(ledger, 4, "50:e~2!");
    }

    // Promise 47: "Returns the length of the output text."
    static void outputLengths() {
        Check.same("the least", Ledgers.storied().renderClause(3), 3);
        ClauseLedger ledger = Ledgers.withText("abcdefgabcde");
        ledger.repeal(0);
        ledger.addClause(99, 'a');
        ledger.advance(400);
        for (int length = 1; length < 12; length++) {
            if (length == 7) {
                ledger.consolidate();
            }
            ledger.insertNote(1, length, 'g');
        }
        ledger.setSunset(1, 10399);
        rendered(ledger, 1, "1:aggggggggggg~10399");
        // A shorter text behind a longer one, and a longer one behind it.
        ledger.addClause(99, 'b');
        rendered(ledger, 2, "99:b");
        rendered(ledger, 1, "1:aggggggggggg~10399");
    }

    // Promise 47: "Throws NoSuchElementException if there is no such clause"
    static void renderNone() {
        for (int clause : NO_CLAUSE) {
            Check.leavesAsIs("clause " + clause, NO_ELEMENT, Ledgers::storied, x -> x.renderClause(clause));
        }
    }

    // Promise 48: "Returns a character of the output text, which is empty initially."
    static void characters() {
        Check.refused("empty", INDEX, () -> new ClauseLedger().outputAt(0));
        ClauseLedger ledger = Ledgers.storied();
        Check.same("first", ledger.outputAt(0), '2');
        Check.same("last", ledger.outputAt(5), '!');
        Check.same("the text of a clause that is gone", ledger.repeal(1) + Picture.output(ledger), "32:b~1!");
    }

    // Promise 48: "Throws IndexOutOfBoundsException if there is no such index"
    static void noIndex() {
        for (int index : new int[] {-1, 6, 7, LEAST, GREATEST}) {
            Check.leavesAsIs("index " + index, INDEX, Ledgers::storied, x -> x.outputAt(index));
        }
        for (int index : new int[] {-1, 0, 1}) {
            Check.leavesAsIs("index " + index + " of nothing", INDEX, Ledgers::three, x -> x.outputAt(index));
        }
        ClauseLedger shorter = Ledgers.storied();
        shorter.renderClause(3);
        Check.refused("an index of an earlier text", INDEX, () -> shorter.outputAt(3));
    }

    // Promise 49: "Returns the length of the script buffer."
    static void bufferLengths() {
        ClauseLedger ledger = new ClauseLedger();
        for (int length = 1; length <= 60; length++) {
            Check.same("length", ledger.type('~'), length);
        }
        Check.refused("full", STATE, () -> ledger.type('~'));
        Check.refused("run", ARGUMENT, ledger::runScript);
        Check.same("empty again", ledger.type('~'), 1);
    }

    // Promise 49: "Throws IllegalArgumentException if the character code is not between 32 and 126"
    static void noCharacter() {
        for (char code = 32; code <= 126; code++) {
            Check.same("code " + (int) code, new ClauseLedger().type(code), 1);
        }
        for (int code : new int[] {0, 9, 10, 31, 127, 128, 255, 256 + 'a', 65535}) {
            Check.leavesAsIs("code " + code, ARGUMENT, Ledgers::storied, x -> x.type((char) code));
        }
    }

    /** A storied ledger with 60 characters in its buffer, which are a script. */
    private static ClauseLedger fullBuffer() {
        ClauseLedger ledger = Ledgers.storied();
        Ledgers.typeAll(ledger, ";wait 1".repeat(8));
        return ledger;
    }

    // Promise 49: "Throws IllegalStateException if the script buffer has 60 characters"
    static void bufferIsFull() {
        Check.leavesAsIs("60 characters", STATE, OutputEdgesTest::fullBuffer, x -> x.type('d'));
        ClauseLedger ledger = new ClauseLedger();
        Ledgers.typeAll(ledger, "edit;".repeat(11) + "edit");
        Check.same("59 characters", ledger.type(';'), 60);
        Check.refused("60 characters of a new object", STATE, () -> ledger.type('e'));
    }

    // Terms, for promise 49: "If several exceptions apply, the one that is listed first is thrown."
    static void typeFirstListed() {
        Check.leavesAsIs("code 31, full", ARGUMENT, OutputEdgesTest::fullBuffer, x -> x.type((char) 31));
        Check.leavesAsIs("code 127, full", ARGUMENT, OutputEdgesTest::fullBuffer, x -> x.type((char) 127));
    }

    // Promise 50: "The buffer is empty afterwards, also if an exception is thrown."
    static void bufferAfterwards() {
        ClauseLedger ledger = new ClauseLedger();
        Check.same("run", Ledgers.run(ledger, "edit"), 1);
        Check.same("after a script", ledger.type('x'), 1);
        Check.refused("not of the form", ARGUMENT, ledger::runScript);
        Check.same("after a text that is none", ledger.type('w'), 1);
        Check.same("a command fails", Ledgers.run(ledger, "ait 0"), STATE);
        Check.same("after a script with a failed command", ledger.type('e'), 1);
        Check.same("what is typed then counts alone", Ledgers.run(ledger, "dit"), 1);
        Check.refused("empty", ARGUMENT, ledger::runScript);
    }

    // Promise 50: "Returns the number of commands."
    static void commandCounts() {
        Check.same("the least", Ledgers.run(new ClauseLedger(), "edit"), 1);
        Check.same("the most", Ledgers.run(new ClauseLedger(), "edit;".repeat(11) + "edit"), 12);
        Check.same("storied, edit", Ledgers.storied().runScript(), 1);
    }

    // Promise 50: "Throws IllegalArgumentException if the script does not have the required form; errorPosition then
    // returns its error position"
    static void notOfTheForm() {
        String[] scripts = {"", "?", "edit;", "wait", "wait 1;wait 2;?", "x".repeat(60), "edit;".repeat(12)};
        int[] due = {0, 0, 5, 4, 14, 0, 60};
        for (int index = 0; index < scripts.length; index++) {
            ClauseLedger ledger = Ledgers.three();
            String before = Picture.of(ledger);
            Check.same("\"" + scripts[index] + "\"", Ledgers.run(ledger, scripts[index]), ARGUMENT);
            Check.same("its error position", ledger.errorPosition(), due[index]);
            Check.same("nothing else", Picture.of(ledger),
                    before.replace("error " + NO_ELEMENT, "error " + due[index]));
            Check.same("no change", ledger.undo(), 2);
        }
    }

    // Promise 50: "Throws IllegalStateException if the method for a command throws an exception; no command takes
    // effect, and failedCommand then returns the index of that command"
    static void commandThrows() {
        String[] scripts = {"add 0 a", "add 10 b", "repeal 3", "put 0 2a", "cut 0 0", "cite 0 0", "cite 0 9",
                "wait 1;wait 401;wait 0", "add 7 a;cite 3 0;cite 0 3;edit;repeal 1;repeal 1",
                "edit;".repeat(10) + "wait 000"};
        int[] due = {0, 0, 0, 0, 0, 0, 0, 1, 5, 10};
        for (int index = 0; index < scripts.length; index++) {
            ClauseLedger ledger = Ledgers.three();
            String before = Picture.of(ledger);
            Check.same("\"" + scripts[index] + "\"", Ledgers.run(ledger, scripts[index]), STATE);
            Check.same("its index", ledger.failedCommand(), due[index]);
            Check.same("nothing else", Picture.of(ledger),
                    before.replace("failed " + NO_ELEMENT, "failed " + due[index]));
            Check.same("no change", ledger.undo(), 2);
        }
    }

    // Terms, for promise 50: "If several exceptions apply, the one that is listed first is thrown."
    static void runFirstListed() {
        ClauseLedger ledger = new ClauseLedger();
        Check.same("a failing command and no form", Ledgers.run(ledger, "wait 0;wait"), ARGUMENT);
        Check.same("the error position", ledger.errorPosition(), 11);
        Check.refused("no failed command", NO_ELEMENT, ledger::failedCommand);
    }

    // Promise 51: "Returns the error position of the latest script that did not have the required form."
    static void latestError() {
        ClauseLedger ledger = new ClauseLedger();
        Check.same("first", Ledgers.run(ledger, "edit;?"), ARGUMENT);
        Check.same("five", ledger.errorPosition(), 5);
        Check.same("a script", Ledgers.run(ledger, "wait 1"), 1);
        Check.same("a failing script", Ledgers.run(ledger, "wait 0"), STATE);
        Check.same("still five", ledger.errorPosition(), 5);
        Check.same("second", Ledgers.run(ledger, ""), ARGUMENT);
        Check.same("none", ledger.errorPosition(), 0);
    }

    // Promise 51: "Throws NoSuchElementException if there was no such script"
    static void noError() {
        Check.leavesAsIs("new", NO_ELEMENT, ClauseLedger::new, ClauseLedger::errorPosition);
        ClauseLedger ledger = new ClauseLedger();
        Check.same("a script", Ledgers.run(ledger, "wait 1"), 1);
        Check.same("a failing script", Ledgers.run(ledger, "wait 0"), STATE);
        Check.refused("both have the form", NO_ELEMENT, ledger::errorPosition);
    }

    // Promise 52: "Returns the index of the command that failed in the latest script with a failed command."
    static void latestFailure() {
        ClauseLedger ledger = new ClauseLedger();
        Check.same("first", Ledgers.run(ledger, "edit;edit;wait 0;wait 0"), STATE);
        Check.same("the first that failed", ledger.failedCommand(), 2);
        Check.same("a script", Ledgers.run(ledger, "wait 1"), 1);
        Check.same("no script", Ledgers.run(ledger, "wait 0;"), ARGUMENT);
        Check.same("still two", ledger.failedCommand(), 2);
        Check.same("second", Ledgers.run(ledger, "wait 0;edit"), STATE);
        Check.same("none", ledger.failedCommand(), 0);
    }

    // Promise 52: "Returns the index of the command, counted from 0."
    static void failureIndexes() {
        for (int index = 0; index <= 10; index++) {
            ClauseLedger ledger = new ClauseLedger();
            Check.same("fails", Ledgers.run(ledger, "edit;".repeat(index) + "wait 0"), STATE);
            Check.same("index", ledger.failedCommand(), index);
        }
    }

    // Promise 52: "Throws NoSuchElementException if there was no such script"
    static void noFailure() {
        Check.leavesAsIs("new", NO_ELEMENT, ClauseLedger::new, ClauseLedger::failedCommand);
        ClauseLedger ledger = new ClauseLedger();
        Check.same("a script", Ledgers.run(ledger, "wait 1"), 1);
        Check.same("no script", Ledgers.run(ledger, "wait 0;"), ARGUMENT);
        Check.refused("a refused call", ARGUMENT, () -> ledger.advance(0));
        Check.refused("none with a failed command", NO_ELEMENT, ledger::failedCommand);
    }

    // Promise 53: "Undoes the latest change that has not been undone."
    static void latestNotUndone() {
        ClauseLedger ledger = new ClauseLedger();
        for (int day = 1; day <= 8; day++) {
            ledger.advance(1);
        }
        Check.same("the eighth", ledger.undo(), 7);
        Check.same("the seventh", ledger.undo(), 6);
        Check.same("six days", ledger.day(), 6);
        // An undone change is none of the latest eight any more, so the new one takes no place of an older one.
        ledger.advance(100);
        Check.same("the new one", ledger.undo(), 6);
        Check.same("six days again", ledger.day(), 6);
        Check.same("the sixth", ledger.undo(), 5);
        Check.same("five days", ledger.day(), 5);
    }

    // Promise 53: "Returns the number of changes that can still be undone."
    static void leftToUndo() {
        ClauseLedger ledger = new ClauseLedger();
        ledger.addClause(1, 'a');
        Check.same("the only one", ledger.undo(), 0);
        ledger.addClause(1, 'a');
        ledger.addClause(2, 'a');
        Check.same("one of two", ledger.undo(), 1);
        for (int edition = 0; edition < 20; edition++) {
            ledger.consolidate();
        }
        for (int left = 7; left >= 0; left--) {
            Check.same("left", ledger.undo(), left);
        }
    }

    // Promise 53: "Throws NoSuchElementException if there is nothing to undo"
    static void nothingToUndo() {
        Check.leavesAsIs("new", NO_ELEMENT, ClauseLedger::new, ClauseLedger::undo);
        Check.leavesAsIs("restored", NO_ELEMENT, () -> {
            ClauseLedger ledger = Ledgers.storied();
            ledger.restore();
            return ledger;
        }, ClauseLedger::undo);
        Check.leavesAsIs("all are undone", NO_ELEMENT, () -> {
            ClauseLedger ledger = Ledgers.storied();
            for (int left = 3; left >= 0; left--) {
                Check.same("left", ledger.undo(), left);
            }
            return ledger;
        }, ClauseLedger::undo);
        Check.leavesAsIs("eight of nine are undone", NO_ELEMENT, () -> {
            ClauseLedger ledger = Ledgers.storied();
            for (int day = 0; day < 9; day++) {
                ledger.advance(1);
            }
            for (int left = 7; left >= 0; left--) {
                Check.same("left of nine", ledger.undo(), left);
            }
            return ledger;
        }, ClauseLedger::undo);
    }

    // Promise 54: "Takes a snapshot, which replaces an earlier one."
    static void laterSnapshot() {
        ClauseLedger ledger = Ledgers.storied();
        String before = Picture.of(ledger);
        ledger.save();
        ledger.advance(1);
        ledger.restore();
        Check.same("the later one", Picture.of(ledger), before);
        ledger.save();
        Check.refused("a save makes nothing to undo", NO_ELEMENT, ledger::undo);
        ledger.advance(1);
        ledger.save();
        Check.same("a save leaves what can be undone", ledger.undo(), 0);
    }

    // Promise 54: "Returns the number of clauses."
    static void savedClauses() {
        Check.same("empty", new ClauseLedger().save(), 0);
        Check.same("full", Ledgers.full().save(), 16);
        Check.same("storied", Ledgers.storied().save(), 4);
    }

    // Promise 55: "Restores the snapshot, which is kept."
    static void snapshotIsKept() {
        ClauseLedger ledger = Ledgers.storied();
        ledger.restore();
        String restored = Picture.of(ledger);
        for (int time = 0; time < 3; time++) {
            ledger.insertNote(0, 0, 'g');
            ledger.uncite(0, 1);
            ledger.advance(400);
            ledger.consolidate();
            ledger.repeal(3);
            Check.same("restored", ledger.restore(), 3);
            Check.same("as before", Picture.of(ledger), restored);
        }
        ledger.advance(1);
        ledger.undo();
        Check.same("kept by undo", ledger.restore(), 3);
    }

    // Promise 55: "Afterwards there is nothing to undo."
    static void nothingToUndoAfterwards() {
        ClauseLedger ledger = Ledgers.storied();
        ledger.restore();
        Check.refused("nothing", NO_ELEMENT, ledger::undo);
        ledger.advance(1);
        ledger.advance(1);
        Check.same("one of two", ledger.undo(), 1);
        Check.same("day", ledger.day(), 2);
        Check.same("the other one", ledger.undo(), 0);
        Check.same("the snapshot's day", ledger.day(), 1);
        Check.refused("not the changes before it", NO_ELEMENT, ledger::undo);
    }

    // Promise 55: "Returns the number of clauses."
    static void restoredClauses() {
        ClauseLedger ledger = new ClauseLedger();
        ledger.save();
        ledger.addClause(1, 'a');
        Check.same("empty", ledger.restore(), 0);
        ClauseLedger full = Ledgers.full();
        full.save();
        full.repeal(3);
        Check.same("full", full.restore(), 16);
        Check.same("storied", Ledgers.storied().restore(), 3);
    }

    // Promise 55: "Throws IllegalStateException if there is no snapshot"
    static void noSnapshot() {
        Check.leavesAsIs("new", STATE, ClauseLedger::new, ClauseLedger::restore);
        Check.leavesAsIs("with changes to undo", STATE, Ledgers::lapsed, ClauseLedger::restore);
    }
}
