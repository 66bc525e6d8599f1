import java.util.NoSuchElementException;
import java.util.function.Function;

/** The edges that the document's section "Terms" names of scripts and of changes, sentence by sentence. */
final class ScriptTermsEdgesTest {
    private static final Class<NoSuchElementException> NO_ELEMENT = NoSuchElementException.class;
    private static final Class<IllegalArgumentException> ARGUMENT = IllegalArgumentException.class;
    private static final Class<IllegalStateException> STATE = IllegalStateException.class;

    public static void main(String[] args) {
        Check.runAll(ScriptTermsEdgesTest.class);
        Check.end();
    }

    private static void runs(String script, int commands) {
        Check.same("\"" + script + "\"", Ledgers.run(bookOfTwo(), script), commands);
    }

    private static void errorAt(String script, int due) {
        ClauseLedger ledger = bookOfTwo();
        Check.same("\"" + script + "\"", Ledgers.run(ledger, script), ARGUMENT);
        Check.same("\"" + script + "\", error position", ledger.errorPosition(), due);
    }

    private static void failsAt(String script, int due) {
        ClauseLedger ledger = bookOfTwo();
        Check.same("\"" + script + "\"", Ledgers.run(ledger, script), STATE);
        Check.same("\"" + script + "\", failed command", ledger.failedCommand(), due);
    }

    /** Clause 0 ("ab") cites clause 1 ("c"). */
    private static ClauseLedger bookOfTwo() {
        ClauseLedger ledger = new ClauseLedger();
        ledger.addClause(10, 'a');
        ledger.addClause(20, 'c');
        ledger.insertNote(0, 1, 'b');
        ledger.cite(0, 1);
        return ledger;
    }

    // Terms: "A script is typed into a buffer of at most 60 characters and then run."
    static void sixtyCharacters() {
        ClauseLedger ledger = bookOfTwo();
        String script = "edit;edit;edit;edit;edit;edit;edit;edit;edit;edit;add 9 a;ed";
        Ledgers.typeAll(ledger, script.substring(0, 59));
        Check.same("sixtieth", ledger.type('d'), 60);
        Check.refused("sixty-first", STATE, () -> ledger.type('i'));
        Check.refused("sixty were read", ARGUMENT, ledger::runScript);
        Check.same("up to the end", ledger.errorPosition(), 60);
        Check.same("a script of sixty", Ledgers.run(ledger,
                "edit;edit;edit;edit;edit;edit;edit;edit;edit;sunset 0 9;edit"), 11);
    }

    // Terms: "It has the form below, where braces mean zero or more repetitions, brackets an optional part, and a bar
    // an alternative."
    static void repetitionsAndOptionalParts() {
        runs("wait 1", 1);
        runs("wait 1;wait 12;wait 123", 3);
        errorAt("wait {1}", 5);
        errorAt("wait [1]", 5);
        errorAt("cite |uncite 0 1", 5);
    }

    // Terms: "script = command { ";" command }"
    static void commandsAndSemicolons() {
        errorAt("", 0);
        runs("edit", 1);
        runs("edit;edit", 2);
        runs("edit;edit;edit;edit;edit;edit;edit;edit;edit;edit;edit;edit", 12);
        errorAt(";", 0);
        errorAt("edit;", 5);
        errorAt("edit;;edit", 5);
        errorAt("edit; edit", 5);
        errorAt("edit ;edit", 4);
        errorAt("editedit", 4);
    }

    // Terms: "command = "add " number " " note | ( "put " | "set " ) number " " number note | "cut " number " "
    // number | "sunset " number " " number | ( "cite " | "uncite " ) number " " number | "repeal " number | "edit" |
    // "wait " number"
    static void commandForms() {
        String[] commands = {"add 30 a", "put 0 0a", "set 0 0a", "cut 0 0", "sunset 0 0", "cite 1 0", "uncite 0 1",
                "repeal 0", "edit", "wait 1"};
        for (String command : commands) {
            runs(command, 1);
            for (int length = 0; length < command.length(); length++) {
                errorAt(command.substring(0, length), length);
                errorAt(command.substring(0, length) + "?", length);
                errorAt(command.substring(0, length) + command.charAt(length) + "\u007e", length + 1);
                errorAt("edit;" + command.substring(0, length), 5 + length);
            }
            errorAt(command + " ", command.length());
            errorAt(" " + command, 0);
            errorAt(command.toUpperCase(), 0);
        }
    }

    // Terms: "note = "a" | "b" | "c" | "d" | "e" | "f" | "g""
    static void notes() {
        for (char note = 'a'; note <= 'g'; note++) {
            runs("add 30 " + note, 1);
            runs("put 0 1" + note, 1);
            runs("set 0 1" + note, 1);
        }
        for (char none : new char[] {'`', 'h', 'A', 'G', '0', ' ', ';'}) {
            errorAt("add 30 " + none, 7);
        }
        for (char none : new char[] {'`', 'h', 'A', 'G', ' ', ';'}) {
            errorAt("put 0 1" + none, 7);
            errorAt("set 0 1" + none, 7);
        }
        errorAt("add 30 aa", 8);
        errorAt("put 0 1aa", 8);
    }

    // Terms: "number = digit [ digit [ digit ] ]"
    static void numbers() {
        runs("wait 1", 1);
        runs("wait 10", 1);
        runs("wait 100", 1);
        runs("wait 001", 1);
        runs("sunset 0 999", 1);
        runs("sunset 000 000", 1);
        errorAt("wait ", 5);
        errorAt("wait 1000", 8);
        errorAt("wait 0001", 8);
        errorAt("sunset 0000 9", 10);
        errorAt("sunset 0 9999", 12);
        errorAt("put 0 0000a", 9);
        errorAt("wait /", 5);
        errorAt("wait :", 5);
        errorAt("wait 9:", 6);
        errorAt("wait -1", 5);
        errorAt("wait +1", 5);
        failsAt("wait 0", 0);
        failsAt("wait 999", 0);
    }

    // Terms: "The commands stand for addClause, insertNote (put), replaceNote (set), deleteNote (cut), setSunset, cite,
    // uncite, repeal, consolidate (edit) and advance, with the arguments in the same order."
    static void commandsAreCalls() {
        sameAs("add 99 g", ledger -> ledger.addClause(99, 'g'));
        sameAs("add 1 a", ledger -> ledger.addClause(1, 'a'));
        sameAs("put 0 2g", ledger -> ledger.insertNote(0, 2, 'g'));
        sameAs("put 0 0g", ledger -> ledger.insertNote(0, 0, 'g'));
        sameAs("set 0 1d", ledger -> ledger.replaceNote(0, 1, 'd'));
        sameAs("cut 0 1", ledger -> ledger.deleteNote(0, 1));
        sameAs("sunset 1 0", ledger -> ledger.setSunset(1, 0));
        sameAs("sunset 0 999", ledger -> ledger.setSunset(0, 999));
        sameAs("cite 1 0", ledger -> ledger.cite(1, 0));
        sameAs("uncite 0 1", ledger -> ledger.uncite(0, 1));
        sameAs("repeal 1", ledger -> ledger.repeal(1));
        sameAs("edit", ClauseLedger::consolidate);
        sameAs("wait 3", ledger -> ledger.advance(3));
        for (String refused : new String[] {"add 0 a", "add 100 a", "add 10 a", "put 2 0a", "put 0 3a", "set 0 2a",
                "cut 0 2", "cut 1 0", "sunset 2 0", "cite 0 0", "cite 0 1", "uncite 1 0", "repeal 2", "wait 401"}) {
            failsAt(refused, 0);
        }
    }

    private static void sameAs(String script, Function<ClauseLedger, ?> call) {
        ClauseLedger byScript = bookOfTwo();
        ClauseLedger byCall = bookOfTwo();
        Check.same(script, Ledgers.run(byScript, script), 1);
        call.apply(byCall);
        Check.same(script + ", state", Picture.of(byScript), Picture.of(byCall));
        Check.same(script + ", changes", byScript.undo(), byCall.undo());
    }

    // Terms: "The commands are executed in order, and either all of them take effect or none."
    static void allOrNone() {
        ClauseLedger ledger = bookOfTwo();
        Check.same("in order", Ledgers.run(ledger, "add 5 a;put 2 0b;set 2 1c;repeal 0;wait 400"), 5);
        Check.same("all", Picture.text(ledger, 2), "bc");
        String before = Picture.of(ledger);
        Check.same("the last one fails", Ledgers.run(ledger, "wait 2;edit;add 9 a;cite 2 3;repeal 1;cut 2 2"), STATE);
        Check.same("the index of the last one", ledger.failedCommand(), 5);
        Check.same("none", Picture.of(ledger), before.replace("failed " + NO_ELEMENT, "failed 5"));
        Check.same("nor the id", ledger.addClause(7, 'a'), 3);
        failsAt("cut 0 1;cut 0 0;edit", 1);
        runs("put 0 0c;cut 0 0;cut 0 0", 3);
    }

    // Terms: "The error position of a script that does not have this form is the index of the first character that
    // cannot continue any script of this form, or the length of the script if every character can and the end comes
    // too early."
    static void errorPositions() {
        errorAt("", 0);
        errorAt("?", 0);
        errorAt("c", 1);
        errorAt("cat 0 0", 1);
        errorAt("cu", 2);
        errorAt("se", 2);
        errorAt("su 0", 2);
        errorAt("sunse", 5);
        errorAt("edi", 3);
        errorAt("edit?", 4);
        errorAt("edit;edit;edit;edit;edit;edit;edit;edit;edit;edit;edit;edit;", 60);
        errorAt("edit;edit;edit;edit;edit;edit;edit;edit;edit;edit;edit;edit?", 59);
        errorAt("wait 1;wait 2;wait", 18);
        // A command that the book would refuse is of the form, and the error is where the form ends.
        errorAt("wait 0;repeal 99;x", 17);
    }

    // Terms: "A change is a call of addClause, insertNote, replaceNote, deleteNote, setSunset, cite, uncite, repeal,
    // consolidate, advance or runScript that returns normally, even if the state is the same afterwards."
    static void whatIsAChange() {
        ClauseLedger ledger = bookOfTwo();
        ledger.setSunset(1, 0);
        ledger.replaceNote(0, 0, 'a');
        Check.same("runScript", Ledgers.run(ledger, "uncite 0 1;cite 0 1"), 2);
        Check.refused("a refused call", STATE, () -> ledger.cite(0, 1));
        Check.same("a failed script", Ledgers.run(ledger, "edit;cite 0 1"), STATE);
        Check.same("no script", Ledgers.run(ledger, "edit;"), ARGUMENT);
        ledger.setSunset(1, 0);
        ledger.save();
        ledger.renderClause(0);
        ledger.type('x');
        ledger.isConsistent();
        // Four calls made the book, and four that change were made since.
        for (int left = 7; left >= 0; left--) {
            Check.same("left", ledger.undo(), left);
        }
        Check.same("all are undone", ledger.clauseCount(), 0);
        Check.refused("nothing is left", NO_ELEMENT, ledger::undo);
    }

    // Terms: "A change is a call of addClause, insertNote, replaceNote, deleteNote, setSunset, cite, uncite, repeal,
    // consolidate, advance or runScript that returns normally, even if the state is the same afterwards."
    static void eachKindOfChange() {
        counts("addClause", ledger -> ledger.addClause(99, 'a'));
        counts("insertNote", ledger -> ledger.insertNote(0, 0, 'a'));
        counts("replaceNote by the same", ledger -> ledger.replaceNote(0, 0, 'a'));
        counts("deleteNote", ledger -> ledger.deleteNote(0, 0));
        counts("setSunset", ledger -> ledger.setSunset(0, 0));
        counts("cite", ledger -> ledger.cite(1, 0));
        counts("uncite", ledger -> ledger.uncite(0, 1));
        counts("repeal", ledger -> ledger.repeal(0));
        counts("consolidate", ClauseLedger::consolidate);
        counts("advance", ledger -> ledger.advance(1));
        counts("runScript", ledger -> Ledgers.run(ledger, "uncite 0 1;cite 0 1"));
    }

    private static void counts(String what, Function<ClauseLedger, ?> change) {
        ClauseLedger ledger = bookOfTwo();
        String before = Picture.of(ledger);
        change.apply(ledger);
        Check.same(what + ", left", ledger.undo(), 4);
        Check.same(what + ", undone", Picture.of(ledger), before);
    }

    // Terms: "The latest 8 changes can be undone, the latest one first."
    static void eightChanges() {
        for (int changes = 0; changes <= 17; changes++) {
            ClauseLedger ledger = new ClauseLedger();
            for (int day = 1; day <= changes; day++) {
                ledger.advance(1);
            }
            int undoable = Math.min(changes, 8);
            for (int undone = 1; undone <= undoable; undone++) {
                Check.same("left of " + changes, ledger.undo(), undoable - undone);
                Check.same("day, of " + changes, ledger.day(), changes - undone);
            }
            Check.refused("a further one of " + changes, NO_ELEMENT, ledger::undo);
            Check.same("day at the end, of " + changes, ledger.day(), changes - undoable);
        }
    }

    // Terms: "Undo and the snapshot cover everything except the script buffer, the error position, the index of the
    // failed command, the output text and the snapshot itself; they cover the id of the next clause."
    static void whatUndoCovers() {
        ClauseLedger ledger = Ledgers.storied();
        String before = Picture.of(ledger);
        Check.same("edit, typed before", ledger.runScript(), 1);
        ledger.addClause(99, 'g');
        ledger.repeal(0);
        ledger.undo();
        ledger.undo();
        // Typed, failed and rendered behind the first change, which is undone now.
        Check.same("not a script", Ledgers.run(ledger, "wait 1;?"), ARGUMENT);
        Check.same("fails", Ledgers.run(ledger, "wait 1;wait 2;wait 0"), STATE);
        ledger.renderClause(4);
        Ledgers.typeAll(ledger, "ed");
        ledger.undo();
        Check.same("the book", Picture.of(ledger),
                before.replace("error 5 failed 1", "error 7 failed 2"));
        Check.same("not the output text", Picture.output(ledger), "3:e");
        Check.same("not the buffer", ledger.type('i'), 3);
        Check.same("the id", ledger.addClause(99, 'g'), 5);
        Check.same("not the snapshot", ledger.restore(), 3);
    }

    // Terms: "Undo and the snapshot cover everything except the script buffer, the error position, the index of the
    // failed command, the output text and the snapshot itself; they cover the id of the next clause."
    static void whatTheSnapshotCovers() {
        ClauseLedger ledger = Ledgers.storied();
        String before = Picture.of(ledger);
        ledger.save();
        ledger.runScript();
        ledger.addClause(99, 'g');
        ledger.repeal(0);
        ledger.advance(7);
        Check.same("not a script", Ledgers.run(ledger, "wait 1;?"), ARGUMENT);
        Check.same("fails", Ledgers.run(ledger, "wait 1;wait 2;wait 0"), STATE);
        ledger.renderClause(4);
        Ledgers.typeAll(ledger, "ed");
        ledger.restore();
        Check.same("the book", Picture.of(ledger),
                before.replace("error 5 failed 1", "error 7 failed 2"));
        Check.same("not the output text", Picture.output(ledger), "3:e");
        Check.same("not the buffer", ledger.type('i'), 3);
        Check.same("the id", ledger.addClause(99, 'g'), 5);
        Check.same("not the snapshot", ledger.restore(), 4);
    }
}
