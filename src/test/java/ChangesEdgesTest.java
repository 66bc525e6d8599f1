import java.util.NoSuchElementException;

/** The edges that promises 1 to 11 name, sentence by sentence. */
final class ChangesEdgesTest {
    private static final Class<NoSuchElementException> NO_ELEMENT = NoSuchElementException.class;
    private static final Class<IndexOutOfBoundsException> INDEX = IndexOutOfBoundsException.class;
    private static final Class<IllegalArgumentException> ARGUMENT = IllegalArgumentException.class;
    private static final Class<IllegalStateException> STATE = IllegalStateException.class;
    private static final Class<UnsupportedOperationException> UNSUPPORTED = UnsupportedOperationException.class;
    private static final int LEAST = Integer.MIN_VALUE;
    private static final int GREATEST = Integer.MAX_VALUE;
    /** In a storied ledger: before the first id, repealed, not yet given, and far off. */
    private static final int[] NO_CLAUSE = {-1, 2, 5, LEAST, GREATEST};
    private static final char[] NO_NOTE = {'`', 'h', 'A', 'G', '0', ' ', 0, 'a' + 256, Character.MAX_VALUE};

    public static void main(String[] args) {
        Check.runAll(ChangesEdgesTest.class);
        Check.end();
    }

    /** A storied ledger in which clause 0 has twelve notes, "cabaaaaaaaaa", and four versions. */
    private static ClauseLedger twelveNotes() {
        ClauseLedger ledger = Ledgers.storied();
        for (int length = 3; length < 12; length++) {
            if (length == 9) {
                ledger.consolidate();
            }
            ledger.insertNote(0, length, 'a');
        }
        return ledger;
    }

    /** As twelveNotes, but clause 0 has lapsed. */
    private static ClauseLedger twelveNotesLapsed() {
        ClauseLedger ledger = twelveNotes();
        ledger.advance(8);
        return ledger;
    }

    /** As twelveNotes, but clause 0 has eight versions. */
    private static ClauseLedger twelveNotesEightVersions() {
        ClauseLedger ledger = twelveNotes();
        for (int version = 5; version <= 8; version++) {
            ledger.replaceNote(0, 0, 'g');
        }
        return ledger;
    }

    // Promise 1: "Creates an empty book on day 0."
    static void newObject() {
        ClauseLedger ledger = new ClauseLedger();
        Check.same("day", ledger.day(), 0);
        Check.same("clauses", ledger.clauseCount(), 0);
        Check.same("in force", ledger.inForceOn(0), 0);
        Check.same("pairs", ledger.duplicatePairs(), 0);
        Check.same("pairs by comparing", ledger.duplicatePairsByComparing(), 0);
        Check.same("broken cites", ledger.brokenCites(), 0);
        Check.same("added", ledger.addedTotal(), 0);
        Check.same("amended", ledger.amendmentTotal(), 0);
        Check.same("repealed", ledger.repealedTotal(), 0);
        Check.same("consolidated", ledger.consolidatedTotal(), 0);
        Check.same("editions", ledger.editionCount(), 0);
        Check.same("consistent", ledger.isConsistent(), true);
        Check.refused("no clause", NO_ELEMENT, () -> ledger.section(0));
        Check.refused("clause -1, as empty places have", NO_ELEMENT, () -> ledger.section(-1));
        Check.refused("no section", NO_ELEMENT, () -> ledger.clauseOfSection(0));
        Check.same("two objects are two books", new ClauseLedger().addClause(1, 'a') + ledger.clauseCount(), 0);
    }

    // Promise 2: "Adds a clause with one note and without a sunset."
    static void addedClause() {
        ClauseLedger ledger = Ledgers.storied();
        ledger.addClause(98, 'g');
        Check.same("new", Picture.clause(ledger, 5),
                "5 section 98 enacted 2 sunset " + NO_ELEMENT + " versions 1 g cites ");
        // The place of a clause that is gone can be used again, but nothing of the clause.
        ClauseLedger full = Ledgers.storiedAndFull();
        full.cite(5, 0);
        full.setSunset(5, 2);
        full.insertNote(5, 0, 'a');
        full.repeal(5);
        full.addClause(98, 'g');
        Check.same("in the place of another", Picture.clause(full, 17),
                "17 section 98 enacted 2 sunset " + NO_ELEMENT + " versions 1 g cites ");
    }

    // Promise 2: "Returns the id of the clause."
    static void addedId() {
        Check.same("first", new ClauseLedger().addClause(99, 'g'), 0);
        Check.same("after a repeal", Ledgers.storied().addClause(99, 'g'), 5);
    }

    // Promise 2: "Throws IllegalArgumentException if the section number is not between 1 and 99, or there is no such
    // note"
    static void addOutside() {
        Check.same("section 1", new ClauseLedger().addClause(1, 'a'), 0);
        Check.same("section 99", new ClauseLedger().addClause(99, 'a'), 0);
        for (int section : new int[] {0, 100, -1, LEAST, GREATEST}) {
            Check.leavesAsIs("section " + section, ARGUMENT, Ledgers::storied, x -> x.addClause(section, 'a'));
        }
        for (char note = 'a'; note <= 'g'; note++) {
            Check.same("note " + note, new ClauseLedger().addClause(9, note), 0);
        }
        for (char note : NO_NOTE) {
            Check.leavesAsIs("note " + (int) note, ARGUMENT, Ledgers::storied, x -> x.addClause(9, note));
        }
    }

    // Promise 2: "Throws IllegalStateException if there are 16 clauses"
    static void addToFull() {
        Check.leavesAsIs("16 clauses", STATE, Ledgers::storiedAndFull, x -> x.addClause(99, 'a'));
        ClauseLedger ledger = Ledgers.storiedAndFull();
        ledger.repeal(16);
        Check.same("15 clauses", ledger.addClause(99, 'a'), 17);
    }

    // Promise 2: "Throws UnsupportedOperationException if a clause has this section number"
    static void addTakenSection() {
        for (int section : new int[] {1, 2, 4, 50}) {
            Check.leavesAsIs("section " + section, UNSUPPORTED, Ledgers::storied, x -> x.addClause(section, 'a'));
        }
        Check.same("section of a repealed clause", Ledgers.storied().addClause(3, 'a'), 5);
        Check.same("section before the consolidation", Ledgers.storied().addClause(10, 'a'), 5);
    }

    // Terms, for promise 2: "If several exceptions apply, the one that is listed first is thrown."
    static void addFirstListed() {
        Check.leavesAsIs("section 100 and full", ARGUMENT, Ledgers::storiedAndFull, x -> x.addClause(100, 'a'));
        Check.leavesAsIs("no note and full", ARGUMENT, Ledgers::storiedAndFull, x -> x.addClause(99, 'h'));
        Check.leavesAsIs("no note and taken", ARGUMENT, Ledgers::storied, x -> x.addClause(1, 'h'));
        Check.leavesAsIs("full and taken", STATE, Ledgers::storiedAndFull, x -> x.addClause(1, 'a'));
        Check.leavesAsIs("all", ARGUMENT, Ledgers::storiedAndFull, x -> x.addClause(1, 'h'));
    }

    // Promise 3: "the position of the note in the new text, counted from 0"
    static void insertPositions() {
        String[] due = {"gcab", "cgab", "cagb", "cabg"};
        for (int position = 0; position < due.length; position++) {
            ClauseLedger ledger = Ledgers.storied();
            Check.same("at " + position, ledger.insertNote(0, position, 'g'), 3);
            Check.same("text, at " + position, Picture.text(ledger, 0), due[position]);
            Check.same("note, at " + position, ledger.noteAt(0, position), 'g');
            Check.same("the version before", Picture.textOn(ledger, 0, 1), "cab");
        }
        ClauseLedger eleven = Ledgers.withText("abcdefgabcd");
        Check.same("at 11", eleven.insertNote(0, 11, 'g'), 2);
        Check.same("twelve notes", Picture.text(eleven, 0), "abcdefgabcdg");
        ClauseLedger first = Ledgers.withText("gggggggggga");
        Check.same("at 0", first.insertNote(0, 0, 'b'), 2);
        Check.same("twelve notes from the front", Picture.text(first, 0), "bgggggggggga");
    }

    // Promise 3: "Returns the number of versions."
    static void insertReturns() {
        ClauseLedger ledger = Ledgers.three();
        for (int versions = 2; versions <= 8; versions++) {
            Check.same("versions", ledger.insertNote(1, 0, 'a'), versions);
        }
    }

    // Promise 3: "Throws NoSuchElementException if there is no such clause"
    static void insertNoClause() {
        for (int clause : NO_CLAUSE) {
            Check.leavesAsIs("clause " + clause, NO_ELEMENT, Ledgers::storied, x -> x.insertNote(clause, 0, 'a'));
        }
    }

    // Promise 3: "Throws IndexOutOfBoundsException if the position is not between 0 and the length of the present text"
    static void insertOutside() {
        for (int position : new int[] {-1, 4, 12, LEAST, GREATEST}) {
            Check.leavesAsIs("position " + position, INDEX, Ledgers::storied, x -> x.insertNote(0, position, 'a'));
        }
        // The text on day 1 was longer than the present one.
        Check.refused("the length of an earlier text", INDEX, () -> {
            ClauseLedger ledger = Ledgers.storied();
            ledger.deleteNote(0, 0);
            return ledger.insertNote(0, 3, 'a');
        });
        Check.leavesAsIs("behind twelve notes", INDEX, ChangesEdgesTest::twelveNotes, x -> x.insertNote(0, 13, 'a'));
    }

    // Promise 3: "Throws IllegalArgumentException if there is no such note"
    static void insertNoNote() {
        for (char note : NO_NOTE) {
            Check.leavesAsIs("note " + (int) note, ARGUMENT, Ledgers::storied, x -> x.insertNote(0, 0, note));
        }
    }

    // Promise 3: "Throws IllegalStateException if the clause is not in force on the present day, or has 8 versions"
    static void insertNotAmendable() {
        Check.leavesAsIs("lapsed", STATE, Ledgers::storied, x -> x.insertNote(1, 0, 'a'));
        Check.leavesAsIs("8 versions", STATE, Ledgers::storiedWithManyVersions, x -> x.insertNote(0, 0, 'a'));
        ClauseLedger sunset = Ledgers.storied();
        sunset.advance(7);
        Check.same("on the sunset", sunset.insertNote(0, 0, 'a'), 3);
        sunset.advance(1);
        Check.refused("the day after", STATE, () -> sunset.insertNote(0, 0, 'a'));
        Check.same("on the day it was enacted", Ledgers.storied().insertNote(4, 0, 'a'), 2);
        ClauseLedger versions = Ledgers.storiedWithManyVersions();
        versions.undo();
        Check.same("7 versions", versions.insertNote(0, 0, 'a'), 8);
    }

    // Promise 3: "Throws UnsupportedOperationException if the text has 12 notes"
    static void insertThirteenth() {
        for (int position : new int[] {0, 6, 12}) {
            Check.leavesAsIs("12 notes, at " + position, UNSUPPORTED, ChangesEdgesTest::twelveNotes,
                    x -> x.insertNote(0, position, 'a'));
        }
        ClauseLedger ledger = twelveNotes();
        ledger.deleteNote(0, 0);
        Check.same("11 notes", ledger.insertNote(0, 11, 'b'), 6);
    }

    // Terms, for promise 3: "If several exceptions apply, the one that is listed first is thrown."
    static void insertFirstListed() {
        Check.leavesAsIs("clause and position", NO_ELEMENT, Ledgers::storied, x -> x.insertNote(5, -1, 'a'));
        Check.leavesAsIs("clause and note", NO_ELEMENT, Ledgers::storied, x -> x.insertNote(5, 0, 'h'));
        Check.leavesAsIs("position and note", INDEX, Ledgers::storied, x -> x.insertNote(0, 4, 'h'));
        Check.leavesAsIs("position and lapsed", INDEX, Ledgers::storied, x -> x.insertNote(1, 2, 'a'));
        Check.leavesAsIs("position and versions", INDEX, Ledgers::storiedWithManyVersions,
                x -> x.insertNote(0, -1, 'a'));
        Check.leavesAsIs("position and 12 notes", INDEX, ChangesEdgesTest::twelveNotes,
                x -> x.insertNote(0, -1, 'a'));
        Check.leavesAsIs("note and lapsed", ARGUMENT, Ledgers::storied, x -> x.insertNote(1, 0, 'h'));
        Check.leavesAsIs("note and versions", ARGUMENT, Ledgers::storiedWithManyVersions,
                x -> x.insertNote(0, 0, 'h'));
        Check.leavesAsIs("note and 12 notes", ARGUMENT, ChangesEdgesTest::twelveNotes, x -> x.insertNote(0, 0, 'h'));
        Check.leavesAsIs("lapsed and 12 notes", STATE, ChangesEdgesTest::twelveNotesLapsed,
                x -> x.insertNote(0, 0, 'a'));
        Check.leavesAsIs("versions and 12 notes", STATE, ChangesEdgesTest::twelveNotesEightVersions,
                x -> x.insertNote(0, 0, 'a'));
        Check.leavesAsIs("all but the clause", INDEX, ChangesEdgesTest::twelveNotesLapsed,
                x -> x.insertNote(0, 13, 'h'));
    }

    // Promise 4: "Amends a clause by replacing a note."
    static void replacePositions() {
        String[] due = {"gab", "cgb", "cag"};
        for (int position = 0; position < due.length; position++) {
            ClauseLedger ledger = Ledgers.storied();
            Check.same("at " + position, ledger.replaceNote(0, position, 'g'), 3);
            Check.same("text, at " + position, Picture.text(ledger, 0), due[position]);
            Check.same("the version before", Picture.textOn(ledger, 0, 1), "cab");
        }
        ClauseLedger twelve = twelveNotes();
        Check.same("at 11", twelve.replaceNote(0, 11, 'g'), 5);
        Check.same("the last of twelve", Picture.text(twelve, 0), "cabaaaaaaaag");
        Check.same("at 0", twelve.replaceNote(0, 0, 'd'), 6);
        Check.same("the first of twelve", Picture.text(twelve, 0), "dabaaaaaaaag");
    }

    // Promise 4: "Returns the number of versions."
    static void replaceReturns() {
        ClauseLedger ledger = Ledgers.three();
        for (int versions = 2; versions <= 8; versions++) {
            Check.same("versions", ledger.replaceNote(1, 0, 'b'), versions);
        }
    }

    // Promise 4: "Throws NoSuchElementException if there is no such clause"
    static void replaceNoClause() {
        for (int clause : NO_CLAUSE) {
            Check.leavesAsIs("clause " + clause, NO_ELEMENT, Ledgers::storied, x -> x.replaceNote(clause, 0, 'a'));
        }
    }

    // Promise 4: "Throws IndexOutOfBoundsException if the present text has no such position"
    static void replaceOutside() {
        for (int position : new int[] {-1, 3, 12, LEAST, GREATEST}) {
            Check.leavesAsIs("position " + position, INDEX, Ledgers::storied, x -> x.replaceNote(0, position, 'a'));
        }
        Check.leavesAsIs("behind twelve notes", INDEX, ChangesEdgesTest::twelveNotes,
                x -> x.replaceNote(0, 12, 'a'));
    }

    // Promise 4: "Throws IllegalArgumentException if there is no such note"
    static void replaceNoNote() {
        for (char note : NO_NOTE) {
            Check.leavesAsIs("note " + (int) note, ARGUMENT, Ledgers::storied, x -> x.replaceNote(0, 0, note));
        }
    }

    // Promise 4: "Throws IllegalStateException if the clause is not in force on the present day, or has 8 versions"
    static void replaceNotAmendable() {
        Check.leavesAsIs("lapsed", STATE, Ledgers::storied, x -> x.replaceNote(1, 0, 'a'));
        Check.leavesAsIs("8 versions", STATE, Ledgers::storiedWithManyVersions, x -> x.replaceNote(0, 0, 'a'));
        ClauseLedger sunset = Ledgers.storied();
        sunset.advance(7);
        Check.same("on the sunset", sunset.replaceNote(0, 0, 'a'), 3);
        sunset.advance(1);
        Check.refused("the day after", STATE, () -> sunset.replaceNote(0, 0, 'a'));
        ClauseLedger versions = Ledgers.storiedWithManyVersions();
        versions.undo();
        Check.same("7 versions", versions.replaceNote(0, 0, 'a'), 8);
    }

    // Terms, for promise 4: "If several exceptions apply, the one that is listed first is thrown."
    static void replaceFirstListed() {
        Check.leavesAsIs("clause and position", NO_ELEMENT, Ledgers::storied, x -> x.replaceNote(5, -1, 'a'));
        Check.leavesAsIs("clause and note", NO_ELEMENT, Ledgers::storied, x -> x.replaceNote(5, 0, 'h'));
        Check.leavesAsIs("position and note", INDEX, Ledgers::storied, x -> x.replaceNote(0, 3, 'h'));
        Check.leavesAsIs("position and lapsed", INDEX, Ledgers::storied, x -> x.replaceNote(1, 1, 'a'));
        Check.leavesAsIs("position and versions", INDEX, Ledgers::storiedWithManyVersions,
                x -> x.replaceNote(0, -1, 'a'));
        Check.leavesAsIs("note and lapsed", ARGUMENT, Ledgers::storied, x -> x.replaceNote(1, 0, 'h'));
        Check.leavesAsIs("note and versions", ARGUMENT, Ledgers::storiedWithManyVersions,
                x -> x.replaceNote(0, 0, 'h'));
        Check.leavesAsIs("all but the clause", INDEX, Ledgers::storied, x -> x.replaceNote(1, 1, 'h'));
    }

    // Promise 5: "Amends a clause by deleting a note."
    static void deletePositions() {
        String[] due = {"ab", "cb", "ca"};
        for (int position = 0; position < due.length; position++) {
            ClauseLedger ledger = Ledgers.storied();
            Check.same("at " + position, ledger.deleteNote(0, position), 3);
            Check.same("text, at " + position, Picture.text(ledger, 0), due[position]);
            Check.same("the version before", Picture.textOn(ledger, 0, 1), "cab");
        }
        ClauseLedger twelve = Ledgers.withText("abcdefgabcde");
        Check.same("at 11", twelve.deleteNote(0, 11), 2);
        Check.same("without the last", Picture.text(twelve, 0), "abcdefgabcd");
        Check.same("at 0", twelve.deleteNote(0, 0), 3);
        Check.same("without the first", Picture.text(twelve, 0), "bcdefgabcd");
    }

    // Promise 5: "Returns the number of versions."
    static void deleteReturns() {
        ClauseLedger ledger = Ledgers.withText("abcdefga");
        for (int versions = 2; versions <= 8; versions++) {
            Check.same("versions", ledger.deleteNote(0, 0), versions);
        }
    }

    // Promise 5: "Throws NoSuchElementException if there is no such clause"
    static void deleteNoClause() {
        for (int clause : NO_CLAUSE) {
            Check.leavesAsIs("clause " + clause, NO_ELEMENT, Ledgers::storied, x -> x.deleteNote(clause, 0));
        }
    }

    // Promise 5: "Throws IndexOutOfBoundsException if the present text has no such position"
    static void deleteOutside() {
        for (int position : new int[] {-1, 3, 12, LEAST, GREATEST}) {
            Check.leavesAsIs("position " + position, INDEX, Ledgers::storied, x -> x.deleteNote(0, position));
        }
        Check.leavesAsIs("behind twelve notes", INDEX, ChangesEdgesTest::twelveNotes, x -> x.deleteNote(0, 12));
    }

    // Promise 5: "Throws IllegalStateException if the clause is not in force on the present day, or has 8 versions"
    static void deleteNotAmendable() {
        Check.leavesAsIs("8 versions", STATE, Ledgers::storiedWithManyVersions, x -> x.deleteNote(0, 0));
        ClauseLedger sunset = Ledgers.storied();
        sunset.advance(7);
        Check.same("on the sunset", sunset.deleteNote(0, 0), 3);
        sunset.advance(1);
        Check.refused("the day after", STATE, () -> sunset.deleteNote(0, 0));
        Check.leavesAsIs("lapsed", STATE, () -> {
            ClauseLedger lapsed = Ledgers.storied();
            lapsed.advance(8);
            return lapsed;
        }, x -> x.deleteNote(0, 0));
        ClauseLedger versions = Ledgers.storiedWithManyVersions();
        versions.undo();
        Check.same("7 versions", versions.deleteNote(0, 0), 8);
    }

    // Promise 5: "Throws UnsupportedOperationException if the text has 1 note"
    static void deleteLastNote() {
        Check.leavesAsIs("1 note", UNSUPPORTED, Ledgers::storied, x -> x.deleteNote(4, 0));
        ClauseLedger ledger = Ledgers.storied();
        ledger.deleteNote(0, 0);
        Check.same("2 notes", ledger.deleteNote(0, 1), 4);
        Check.refused("1 note is left", UNSUPPORTED, () -> ledger.deleteNote(0, 0));
    }

    // Terms, for promise 5: "If several exceptions apply, the one that is listed first is thrown."
    static void deleteFirstListed() {
        Check.leavesAsIs("clause and position", NO_ELEMENT, Ledgers::storied, x -> x.deleteNote(5, -1));
        Check.leavesAsIs("position and lapsed, 1 note", INDEX, Ledgers::storied, x -> x.deleteNote(1, 1));
        Check.leavesAsIs("position and versions", INDEX, Ledgers::storiedWithManyVersions, x -> x.deleteNote(0, 3));
        Check.leavesAsIs("position and 1 note", INDEX, Ledgers::storied, x -> x.deleteNote(4, -1));
        Check.leavesAsIs("lapsed and 1 note", STATE, Ledgers::storied, x -> x.deleteNote(1, 0));
        Check.leavesAsIs("versions and 1 note", STATE, Ledgers::manyVersions, x -> x.deleteNote(0, 0));
    }

    // Promise 6: "the new sunset, which may be the present day"
    static void sunsetToday() {
        ClauseLedger ledger = Ledgers.storied();
        Check.same("the present day", ledger.setSunset(4, 2), 0);
        Check.same("sunset", ledger.sunset(4), 2);
        Check.same("not yet lapsed", ledger.hasLapsed(4), false);
        Check.same("in place of a later one", ledger.setSunset(0, 2), 0);
        ClauseLedger first = Ledgers.three();
        Check.same("the first day", first.setSunset(0, 0), 0);
    }

    // Promise 6: "Returns the number of days from the present day to the sunset."
    static void sunsetReturns() {
        ClauseLedger ledger = Ledgers.storied();
        Check.same("the least", ledger.setSunset(0, 2), 0);
        Check.same("the next", ledger.setSunset(0, 3), 1);
        Check.same("the greatest", ledger.setSunset(0, 10001), 9999);
    }

    // Promise 6: "Throws NoSuchElementException if there is no such clause"
    static void sunsetNoClause() {
        for (int clause : NO_CLAUSE) {
            Check.leavesAsIs("clause " + clause, NO_ELEMENT, Ledgers::storied, x -> x.setSunset(clause, 2));
        }
    }

    // Promise 6: "Throws IllegalArgumentException if the day is before the present day or more than 9999 days after it"
    static void sunsetOutside() {
        // The two far ones would turn round in an int when the present day is taken away.
        for (int day : new int[] {1, 10002, 0, -1, LEAST, LEAST + 1, GREATEST}) {
            Check.leavesAsIs("day " + day, ARGUMENT, Ledgers::storied, x -> x.setSunset(0, day));
        }
        Check.same("present day", Ledgers.storied().setSunset(0, 2), 0);
        Check.same("9999 days after", Ledgers.storied().setSunset(0, 10001), 9999);
        Check.refused("10000 days after the first", ARGUMENT, () -> Ledgers.three().setSunset(0, 10000));
        Check.refused("before the first", ARGUMENT, () -> Ledgers.three().setSunset(0, -1));
    }

    // Promise 6: "Throws IllegalStateException if the clause has lapsed"
    static void sunsetLapsed() {
        Check.leavesAsIs("lapsed", STATE, Ledgers::storied, x -> x.setSunset(1, 2));
        Check.leavesAsIs("lapsed, a later day", STATE, Ledgers::storied, x -> x.setSunset(1, 10001));
        ClauseLedger ledger = Ledgers.storied();
        ledger.advance(7);
        Check.same("on the sunset", ledger.setSunset(0, 10), 1);
        ledger.advance(2);
        Check.refused("the day after the new one", STATE, () -> ledger.setSunset(0, 11));
    }

    // Terms, for promise 6: "If several exceptions apply, the one that is listed first is thrown."
    static void sunsetFirstListed() {
        Check.leavesAsIs("clause and day", NO_ELEMENT, Ledgers::storied, x -> x.setSunset(2, 1));
        Check.leavesAsIs("day and lapsed", ARGUMENT, Ledgers::storied, x -> x.setSunset(1, 1));
        Check.leavesAsIs("late day and lapsed", ARGUMENT, Ledgers::storied, x -> x.setSunset(1, 10002));
    }

    // Promise 7: "Returns the number of cites of the citing clause."
    static void citeReturns() {
        ClauseLedger ledger = Ledgers.storied();
        Check.same("first", ledger.cite(3, 4), 1);
        Check.same("second, of a lapsed clause", ledger.cite(3, 1), 2);
        Check.same("by a lapsed clause", ledger.cite(1, 0), 2);
        Check.same("fourth, behind one of a clause that is gone", ledger.cite(0, 4), 4);
        Check.same("order", Picture.cites(ledger, 0), ">1>2>3>4");
    }

    // Promise 7: "Throws NoSuchElementException if there is no such clause, for either argument"
    static void citeNoClause() {
        for (int clause : NO_CLAUSE) {
            Check.leavesAsIs("by " + clause, NO_ELEMENT, Ledgers::storied, x -> x.cite(clause, 0));
            Check.leavesAsIs("of " + clause, NO_ELEMENT, Ledgers::storied, x -> x.cite(3, clause));
            Check.leavesAsIs("both " + clause, NO_ELEMENT, Ledgers::storied, x -> x.cite(clause, clause));
        }
    }

    // Promise 7: "Throws IllegalArgumentException if both are the same"
    static void citeItself() {
        for (int clause : new int[] {0, 1, 3, 4}) {
            Check.leavesAsIs("clause " + clause, ARGUMENT, Ledgers::storied, x -> x.cite(clause, clause));
        }
    }

    // Promise 7: "Throws IllegalStateException if the clause cites the other one, or has 4 cites"
    static void citeAgainOrFifth() {
        Check.leavesAsIs("the first again", STATE, Ledgers::storied, x -> x.cite(0, 1));
        Check.leavesAsIs("the last again", STATE, Ledgers::storied, x -> x.cite(0, 3));
        Check.leavesAsIs("the fourth again", STATE, Ledgers::fourCites, x -> x.cite(0, 4));
        Check.leavesAsIs("a fifth", STATE, Ledgers::fourCites, x -> x.cite(0, 5));
        Check.same("the other way round", Ledgers.fourCites().cite(1, 0), 1);
        ClauseLedger gone = Ledgers.fourCites();
        gone.repeal(4);
        Check.refused("a cite of a clause that is gone counts", STATE, () -> gone.cite(0, 5));
        gone.uncite(0, 4);
        Check.same("room again", gone.cite(0, 5), 4);
    }

    // Terms, for promise 7: "If several exceptions apply, the one that is listed first is thrown."
    static void citeFirstListed() {
        Check.leavesAsIs("no clause and the same", NO_ELEMENT, Ledgers::storied, x -> x.cite(2, 2));
        Check.leavesAsIs("no clause, which is cited", NO_ELEMENT, Ledgers::storied, x -> x.cite(0, 2));
        Check.leavesAsIs("no clause and 4 cites", NO_ELEMENT, Ledgers::fourCites, x -> x.cite(0, 6));
        Check.leavesAsIs("the same and 4 cites", ARGUMENT, Ledgers::fourCites, x -> x.cite(0, 0));
    }

    // Promise 8: "Removes a cite, also one of a clause that does not exist."
    static void unciteAny() {
        ClauseLedger ledger = Ledgers.storied();
        Check.same("of a repealed clause", ledger.uncite(0, 2), 2);
        Check.same("the others, in order", Picture.cites(ledger, 0), ">1>3");
        Check.same("of a lapsed clause", ledger.uncite(0, 1), 1);
        Check.same("by a lapsed clause", ledger.uncite(1, 2), 0);
    }

    // Promise 8: "Returns the number of cites of the citing clause."
    static void unciteReturns() {
        ClauseLedger ledger = Ledgers.fourCites();
        Check.same("the last of four", ledger.uncite(0, 4), 3);
        Check.same("the first of three", ledger.uncite(0, 1), 2);
        Check.same("the first of two", ledger.uncite(0, 2), 1);
        Check.same("the only one", ledger.uncite(0, 3), 0);
    }

    // Promise 8: "Throws NoSuchElementException if there is no such citing clause, or it does not cite the other one"
    static void unciteNone() {
        for (int clause : NO_CLAUSE) {
            Check.leavesAsIs("by " + clause, NO_ELEMENT, Ledgers::storied, x -> x.uncite(clause, 0));
        }
        for (int cited : new int[] {0, 4, 5, -1, LEAST, GREATEST}) {
            Check.leavesAsIs("of " + cited, NO_ELEMENT, Ledgers::storied, x -> x.uncite(0, cited));
        }
        Check.leavesAsIs("no cites", NO_ELEMENT, Ledgers::storied, x -> x.uncite(3, 0));
        Check.leavesAsIs("-1, with no cites", NO_ELEMENT, Ledgers::storied, x -> x.uncite(3, -1));
        Check.leavesAsIs("a second time", NO_ELEMENT, () -> {
            ClauseLedger ledger = Ledgers.storied();
            ledger.uncite(0, 3);
            return ledger;
        }, x -> x.uncite(0, 3));
    }

    // Promise 9: "Repeals a clause: it ceases to exist."
    static void repealed() {
        ClauseLedger ledger = Ledgers.storied();
        ledger.repeal(4);
        Check.refused("gone", NO_ELEMENT, () -> ledger.section(4));
        Check.refused("its section", NO_ELEMENT, () -> ledger.clauseOfSection(50));
        ledger.repeal(1);
        Check.refused("a lapsed one", NO_ELEMENT, () -> ledger.section(1));
        Check.same("not by a consolidation", ledger.consolidatedTotal(), 0);
    }

    // Promise 9: "Returns the number of clauses."
    static void repealReturns() {
        ClauseLedger ledger = Ledgers.full();
        for (int left = 15; left >= 0; left--) {
            Check.same("left", ledger.repeal(left), left);
        }
    }

    // Promise 9: "Throws NoSuchElementException if there is no such clause"
    static void repealNoClause() {
        for (int clause : NO_CLAUSE) {
            Check.leavesAsIs("clause " + clause, NO_ELEMENT, Ledgers::storied, x -> x.repeal(clause));
        }
        Check.leavesAsIs("in an empty book", NO_ELEMENT, ClauseLedger::new, x -> x.repeal(0));
    }

    // Promise 10: "Returns the number of the new edition."
    static void consolidateReturns() {
        ClauseLedger ledger = new ClauseLedger();
        for (int edition = 1; edition <= 13; edition++) {
            Check.same("edition", ledger.consolidate(), edition);
        }
        ledger.undo();
        Check.same("the thirteenth again", ledger.consolidate(), 13);
    }

    // Promise 11: "Returns the number of existing clauses that lapse by this."
    static void advanceReturns() {
        ClauseLedger ledger = Ledgers.full();
        for (int id = 0; id < 15; id++) {
            ledger.setSunset(id, id < 10 ? 4 : 5);
        }
        ledger.repeal(0);
        Check.same("before the sunset", ledger.advance(3), 0);
        Check.same("up to the sunset", ledger.advance(1), 0);
        Check.same("the day after, without the repealed one", ledger.advance(1), 9);
        Check.same("those that lapsed before do not count", ledger.advance(400), 5);
        Check.same("none is left", ledger.advance(400), 0);
        Check.same("in an empty book", new ClauseLedger().advance(1), 0);
        ClauseLedger all = Ledgers.full();
        for (int id = 0; id < 16; id++) {
            all.setSunset(id, 0);
        }
        Check.same("all sixteen", all.advance(1), 16);
    }

    // Promise 11: "Throws IllegalArgumentException if the number of days is not between 1 and 400"
    static void advanceOutside() {
        ClauseLedger ledger = new ClauseLedger();
        ledger.advance(1);
        Check.same("1", ledger.day(), 1);
        ledger.advance(400);
        Check.same("400", ledger.day(), 401);
        for (int days : new int[] {0, 401, -1, LEAST, GREATEST}) {
            Check.leavesAsIs("days " + days, ARGUMENT, Ledgers::storied, x -> x.advance(days));
        }
    }
}
