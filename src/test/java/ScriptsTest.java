import java.util.NoSuchElementException;
import java.util.function.Function;

/** Promises 47 to 55. */
final class ScriptsTest {
    private static final Class<NoSuchElementException> NO_ELEMENT = NoSuchElementException.class;
    private static final Class<IndexOutOfBoundsException> INDEX = IndexOutOfBoundsException.class;
    private static final Class<IllegalArgumentException> ARGUMENT = IllegalArgumentException.class;
    private static final Class<IllegalStateException> STATE = IllegalStateException.class;

    public static void main(String[] args) {
        promises47And48();
        promise49();
        everyCommand();
        manyCommands();
        errorPositions();
        errorPositionsBehindKeywords();
        latestErrorPosition();
        failedCommands();
        promise53();
        undoOfEachChange();
        keptByUndo();
        promises54And55();
        Check.end();
    }

    private static String output(ClauseLedger ledger, int length) {
        StringBuilder output = new StringBuilder();
        for (int index = 0; index < length; index++) {
            output.append(ledger.outputAt(index));
        }
        return output.toString();
    }

    private static void promises47And48() {
        ClauseLedger ledger = Ledgers.withText("abcg");
        Check.refused("48 empty", INDEX, () -> ledger.outputAt(0));
        Check.same("47 plain", output(ledger, ledger.renderClause(0)), "1:abcg");
        ledger.setSunset(0, 20);
        Check.same("47 sunset", output(ledger, ledger.renderClause(0)), "1:abcg~20");
        ledger.addClause(12, 'e');
        ledger.setSunset(1, 0);
        Check.same("47 sunset today", output(ledger, ledger.renderClause(1)), "12:e~0");
        ledger.advance(21);
        Check.same("47 lapsed", output(ledger, ledger.renderClause(0)), "1:abcg~20!");
        Check.same("47 shorter", ledger.renderClause(1), 7);
        Check.refused("48 behind the end", INDEX, () -> ledger.outputAt(7));
        Check.refused("48 -1", INDEX, () -> ledger.outputAt(-1));
        Check.refused("47 no clause", NO_ELEMENT, () -> ledger.renderClause(2));
        ledger.undo();
        Check.same("47 refusals and undo leave the output", output(ledger, 7), "12:e~0!");
        Check.refused("48 still", INDEX, () -> ledger.outputAt(7));
    }

    private static void promise49() {
        ClauseLedger ledger = new ClauseLedger();
        Check.same("49 space", ledger.type(' '), 1);
        Check.same("49 tilde", ledger.type('~'), 2);
        Check.refused("49 code 31", ARGUMENT, () -> ledger.type((char) 31));
        Check.refused("49 code 127", ARGUMENT, () -> ledger.type((char) 127));
        Check.refused("49 last char", ARGUMENT, () -> ledger.type(Character.MAX_VALUE));
        for (int length = 3; length <= 60; length++) {
            Check.same("49 length " + length, ledger.type('x'), length);
        }
        Check.refused("49 full", STATE, () -> ledger.type('x'));
        Check.refused("49 full, code 0", ARGUMENT, () -> ledger.type((char) 0));
        Check.refused("50 not a script", ARGUMENT, ledger::runScript);
        Check.same("49 empty again", ledger.type('x'), 1);
    }

    private static Object run(ClauseLedger ledger, String script) {
        return Ledgers.run(ledger, script);
    }

    private static void everyCommand() {
        ClauseLedger ledger = new ClauseLedger();
        Check.same("50 texts", run(ledger, "add 9 a;put 0 1b;put 0 002g;set 0 00c;add 008 d;cut 0 1"), 6);
        Check.same("50 text", Picture.text(ledger, 0), "cg");
        Check.same("50 section", ledger.section(1), 8);
        Check.same("50 cites", run(ledger, "cite 0 1;cite 1 0;sunset 1 5;wait 6;uncite 0 1"), 5);
        Check.same("50 cite", Picture.cites(ledger, 1), ">0");
        Check.same("50 uncite", Picture.cites(ledger, 0), "");
        Check.same("50 sunset", ledger.sunset(1), 5);
        Check.same("50 day", ledger.day(), 6);
        Check.same("50 edit", run(ledger, "edit;repeal 0;wait 400"), 3);
        Check.same("50 no clauses", ledger.clauseCount(), 0);
        Check.same("50 ended", ledger.consolidatedTotal(), 1);
        Check.same("50 repealed", ledger.repealedTotal(), 1);
        Check.same("50 edition", ledger.editionDay(1), 6);
        Check.same("50 three changes", ledger.undo(), 2);
        Check.same("50 all of the script is undone", ledger.clauseCount(), 2);
    }

    private static void manyCommands() {
        ClauseLedger ledger = new ClauseLedger();
        Check.same("50 twelve", run(ledger, "edit;edit;edit;edit;edit;edit;edit;edit;edit;edit;edit;edit"), 12);
        Check.same("50 twelve editions", ledger.editionCount(), 12);
        Check.same("50 and a ;", run(ledger, "edit;edit;edit;edit;edit;edit;edit;edit;edit;edit;edit;edit;"),
                ARGUMENT);
        Check.same("51 end after sixty", ledger.errorPosition(), 60);
        Check.same("50 and an x", run(ledger, "edit;edit;edit;edit;edit;edit;edit;edit;edit;edit;edit;editx"),
                ARGUMENT);
        Check.same("51 the sixtieth", ledger.errorPosition(), 59);
        Check.same("50 one change", ledger.undo(), 0);
        Check.same("50 undone", ledger.editionCount(), 0);
    }

    private static void errorAt(String script, int due) {
        errorAt(new ClauseLedger(), script, due);
    }

    private static void errorAt(ClauseLedger ledger, String script, int due) {
        Check.same("50 \"" + script + "\"", run(ledger, script), ARGUMENT);
        Check.same("51 \"" + script + "\"", ledger.errorPosition(), due);
    }

    private static void errorPositions() {
        errorAt("", 0);
        errorAt(" ", 0);
        errorAt(";", 0);
        errorAt("b", 0);
        errorAt("Edit", 0);
        errorAt("c", 1);
        errorAt("cx", 1);
        errorAt("cutt", 3);
        errorAt("cute 0 1", 3);
        errorAt("s", 1);
        errorAt("suet", 2);
        errorAt("un", 2);
        errorAt("edit ;edit", 4);
        errorAt("edit;", 5);
        errorAt("edit;;edit", 5);
        errorAt("edit;ed", 7);
        errorAt("wait 1;wait", 11);
    }

    private static void errorPositionsBehindKeywords() {
        errorAt("add", 3);
        errorAt("add  1 a", 4);
        errorAt("add a", 4);
        errorAt("add 1a", 5);
        errorAt("add 1 h", 6);
        errorAt("add 1 aa", 7);
        errorAt("add 1 a ;edit", 7);
        errorAt("add 1234 a", 7);
        errorAt("add 123", 7);
        errorAt("add -1 a", 4);
        errorAt("add 9 a;put 0 1 b", 15);
        errorAt("add 9 a;put 0 1", 15);
        errorAt("add 9 a;put 0a", 13);
        errorAt("add 9 a;wait -1", 13);
        errorAt("sunset 1", 8);
        errorAt("sunset 1 ", 9);
        errorAt("sunset 1 1234", 12);
        errorAt("set 1 000", 9);
        errorAt("set 1 0000a", 9);
        errorAt("repeal 1 2", 8);
    }

    private static void latestErrorPosition() {
        ClauseLedger ledger = new ClauseLedger();
        Check.refused("51 none", NO_ELEMENT, ledger::errorPosition);
        errorAt(ledger, "edit;add", 8);
        Check.same("50 nothing took effect", ledger.editionCount(), 0);
        Check.refused("50 no change", NO_ELEMENT, ledger::undo);
        Check.same("50 a good one", run(ledger, "edit"), 1);
        Check.same("51 stays after a good script", ledger.errorPosition(), 8);
        Check.same("50 a failing one", run(ledger, "wait 0"), STATE);
        Check.same("51 stays after a failing script", ledger.errorPosition(), 8);
        errorAt(ledger, "?", 0);
        Check.same("52 stays after an error", ledger.failedCommand(), 0);
    }

    private static void failedCommands() {
        ClauseLedger ledger = new ClauseLedger();
        Check.refused("52 none", NO_ELEMENT, ledger::failedCommand);
        ledger.addClause(5, 'a');
        ledger.insertNote(0, 0, 'b');
        String before = Picture.clause(ledger, 0);
        failedAt(ledger, "wait 2;put 0 0c;add 5 a", 2);
        failedAt(ledger, "cite 0 0", 0);
        failedAt(ledger, "edit;wait 401", 1);
        failedAt(ledger, "add 6 a;cite 0 1;sunset 0 0;wait 1;sunset 0 9", 4);
        failedAt(ledger, "repeal 0;repeal 0", 1);
        failedAt(ledger, "set 0 2a", 0);
        failedAt(ledger, "edit;put 0 3a", 1);
        failedAt(ledger, "cut 0 0;cut 0 0", 1);
        failedAt(ledger, "uncite 0 1", 0);
        failedAt(ledger, "add 0 a", 0);
        Check.same("50 nothing took effect", Picture.clause(ledger, 0), before);
        Check.same("50 day", ledger.day(), 0);
        Check.same("50 no edition", ledger.editionCount(), 0);
        Check.same("50 next id", ledger.addClause(7, 'a'), 1);
        Check.same("52 stays", run(ledger, "wait 1"), 1);
        Check.same("52 as it was", ledger.failedCommand(), 0);
        Check.same("50 failed scripts are no changes", ledger.undo(), 3);
        Check.refused("51 none", NO_ELEMENT, ledger::errorPosition);
        failedAt(ledger, "wait 0", 0);
        Check.same("50 buffer is empty", ledger.type('?'), 1);
    }

    private static void failedAt(ClauseLedger ledger, String script, int due) {
        Check.same("50 \"" + script + "\"", run(ledger, script), STATE);
        Check.same("52 \"" + script + "\"", ledger.failedCommand(), due);
    }

    private static void promise53() {
        ClauseLedger ledger = new ClauseLedger();
        for (int day = 1; day <= 10; day++) {
            ledger.advance(1);
        }
        for (int left = 7; left >= 0; left--) {
            Check.same("53 left", ledger.undo(), left);
            Check.same("53 day", ledger.day(), left + 2);
        }
        Check.refused("53 nothing left", NO_ELEMENT, ledger::undo);
        Check.same("53 day", ledger.day(), 2);
        ledger.advance(3);
        ledger.advance(4);
        Check.same("53 after new changes", ledger.undo(), 1);
        Check.same("53 new day", ledger.day(), 5);
        ledger.consolidate();
        Check.same("53 one undone, one new", ledger.undo(), 1);
        Check.same("53 the older one", ledger.undo(), 0);
        Check.same("53 first day left", ledger.day(), 2);
        Check.same("53 id after undo", undoneId(), 1);
    }

    private static int undoneId() {
        ClauseLedger ledger = new ClauseLedger();
        ledger.addClause(1, 'a');
        ledger.addClause(2, 'a');
        ledger.undo();
        return ledger.addClause(3, 'a');
    }

    private static void undoOfEachChange() {
        undoes("addClause", ledger -> ledger.addClause(77, 'a'));
        undoes("insertNote", ledger -> ledger.insertNote(0, 1, 'a'));
        undoes("replaceNote", ledger -> ledger.replaceNote(0, 0, 'g'));
        undoes("replaceNote by the same", ledger -> ledger.replaceNote(0, 0, ledger.noteAt(0, 0)));
        undoes("deleteNote", ledger -> ledger.deleteNote(0, 0));
        undoes("first setSunset", ledger -> ledger.setSunset(0, 9));
        undoes("setSunset", ledger -> ledger.setSunset(1, 9));
        undoes("setSunset to the same day", ledger -> ledger.setSunset(1, 3));
        undoes("cite", ledger -> ledger.cite(0, 1));
        undoes("uncite", ledger -> ledger.uncite(0, 2));
        undoes("repeal", ledger -> ledger.repeal(0));
        undoes("consolidate", ClauseLedger::consolidate);
        undoes("advance", ledger -> ledger.advance(2));
        undoes("runScript", ledger -> run(ledger, "wait 2;edit;repeal 0;add 50 a;put 3 0b"));
    }

    /** Two clauses on day 3: clause 0 has three versions and cites a repealed one, clause 1 has a sunset. */
    private static ClauseLedger eventful() {
        ClauseLedger ledger = Ledgers.three();
        ledger.cite(0, 2);
        ledger.advance(1);
        ledger.consolidate();
        ledger.insertNote(0, 0, 'e');
        ledger.setSunset(1, 3);
        ledger.repeal(2);
        ledger.advance(2);
        ledger.insertNote(0, 2, 'f');
        return ledger;
    }

    private static void undoes(String change, Function<ClauseLedger, ?> call) {
        ClauseLedger ledger = eventful();
        String before = Picture.of(ledger);
        call.apply(ledger);
        Check.refused("53 refused after " + change, NO_ELEMENT, () -> ledger.repeal(99));
        Check.same("53 left after " + change, ledger.undo(), 7);
        Check.same("53 " + change, Picture.of(ledger), before);
        Check.same("53 next id after " + change, ledger.addClause(88, 'a'), 3);
    }

    /** The buffer, the output text, the latest error and the snapshot stay as they are at an undo. */
    private static void keptByUndo() {
        ClauseLedger ledger = new ClauseLedger();
        ledger.addClause(5, 'a');
        ledger.renderClause(0);
        Check.same("53 not a script", run(ledger, "edit;x"), ARGUMENT);
        Check.same("53 a failing one", run(ledger, "edit;add 1 b"), STATE);
        ledger.save();
        ledger.type('e');
        Check.same("53 only the clause", ledger.undo(), 0);
        Check.same("53 no clause", ledger.clauseCount(), 0);
        Check.same("53 output stays", output(ledger, 3), "5:a");
        Check.same("53 error position stays", ledger.errorPosition(), 5);
        Check.same("53 failed command stays", ledger.failedCommand(), 1);
        Check.same("53 buffer stays", run(ledger, "dit"), 1);
        Check.same("53 snapshot stays", ledger.restore(), 1);
    }

    private static void promises54And55() {
        ClauseLedger ledger = Ledgers.lapsed();
        Check.refused("55 no snapshot", STATE, ledger::restore);
        Check.same("54 three", ledger.save(), 3);
        String saved = Picture.of(ledger);
        Check.same("54 save is no change", ledger.undo(), 4);
        ledger.consolidate();
        ledger.repeal(0);
        ledger.addClause(50, 'a');
        ledger.cite(3, 2);
        Check.same("55 three", ledger.restore(), 3);
        Check.same("55 as saved", Picture.of(ledger), saved);
        Check.refused("55 nothing to undo", NO_ELEMENT, ledger::undo);
        Check.same("55 next id", ledger.addClause(50, 'a'), 3);
        Check.same("55 undo counts anew", ledger.undo(), 0);
        ledger.repeal(1);
        Check.same("55 kept", ledger.restore(), 3);
        Check.same("55 as saved again", Picture.of(ledger), saved);
        ledger.repeal(1);
        Check.same("54 replaces", ledger.save(), 2);
        ledger.repeal(2);
        Check.same("55 the later one", ledger.restore(), 2);
        restoreOfAll();
        keptByRestore();
    }

    private static void restoreOfAll() {
        ClauseLedger ledger = eventful();
        String saved = Picture.of(ledger);
        Check.same("54 two", ledger.save(), 2);
        run(ledger, "wait 2;edit;repeal 0;add 50 a;put 3 0b;sunset 3 90");
        ledger.consolidate();
        Check.same("55 two", ledger.restore(), 2);
        Check.same("55 all as saved", Picture.of(ledger), saved);
        Check.same("55 edition day", ledger.editionDay(1), 1);
        Check.same("55 next id", ledger.addClause(88, 'a'), 3);
    }

    private static void keptByRestore() {
        ClauseLedger ledger = new ClauseLedger();
        Check.same("54 empty", ledger.save(), 0);
        ledger.addClause(5, 'a');
        ledger.renderClause(0);
        Check.same("55 not a script", run(ledger, "add x"), ARGUMENT);
        Check.same("55 a failing one", run(ledger, "edit;add 0 a"), STATE);
        ledger.type('e');
        Check.same("55 empty", ledger.restore(), 0);
        Check.same("55 output stays", output(ledger, 3), "5:a");
        Check.same("55 error position stays", ledger.errorPosition(), 4);
        Check.same("55 failed command stays", ledger.failedCommand(), 1);
        Check.same("55 buffer stays", run(ledger, "dit"), 1);
    }
}
