import java.util.NoSuchElementException;
import java.util.function.ToIntFunction;

/** The edges that promises 23 to 31 name, sentence by sentence. */
final class VersionsEdgesTest {
    private static final Class<NoSuchElementException> NO_ELEMENT = NoSuchElementException.class;
    private static final Class<IndexOutOfBoundsException> INDEX = IndexOutOfBoundsException.class;
    private static final int LEAST = Integer.MIN_VALUE;
    private static final int GREATEST = Integer.MAX_VALUE;
    /** In a storied ledger: before the first id, repealed, not yet given, and far off. */
    private static final int[] NO_CLAUSE = {-1, 2, 5, LEAST, GREATEST};

    public static void main(String[] args) {
        Check.runAll(VersionsEdgesTest.class);
        Check.end();
    }

    // Promise 23: "Returns the number of notes."
    static void lengths() {
        Check.same("the least", Ledgers.three().length(0), 1);
        Check.same("the greatest", Ledgers.withText("gggggggggggg").length(0), 12);
        Check.same("of the present text", Ledgers.storied().length(0), 3);
        Check.same("of a lapsed clause", Ledgers.storied().length(1), 1);
    }

    // Promise 23: "Throws NoSuchElementException if there is no such clause"
    static void lengthOfNone() {
        for (int clause : NO_CLAUSE) {
            Check.leavesAsIs("clause " + clause, NO_ELEMENT, Ledgers::storied, x -> x.length(clause));
        }
    }

    // Promise 24: "Returns a note of the present text of a clause."
    static void notesOfPresentText() {
        ClauseLedger twelve = Ledgers.withText("abcdefgfedcb");
        for (int position = 0; position < 12; position++) {
            Check.same("position " + position, twelve.noteAt(0, position), "abcdefgfedcb".charAt(position));
        }
        Check.same("the first", Ledgers.storied().noteAt(0, 0), 'c');
        Check.same("the last", Ledgers.storied().noteAt(0, 2), 'b');
        Check.same("the only one", Ledgers.storied().noteAt(4, 0), 'e');
    }

    // Promise 24: "Throws NoSuchElementException if there is no such clause"
    static void noteOfNone() {
        for (int clause : NO_CLAUSE) {
            Check.leavesAsIs("clause " + clause, NO_ELEMENT, Ledgers::storied, x -> x.noteAt(clause, 0));
        }
    }

    // Promise 24: "Throws IndexOutOfBoundsException if the text has no such position"
    static void noteOutside() {
        for (int position : new int[] {-1, 3, 11, 12, LEAST, GREATEST}) {
            Check.leavesAsIs("position " + position, INDEX, Ledgers::storied, x -> x.noteAt(0, position));
        }
        Check.refused("behind one note", INDEX, () -> Ledgers.storied().noteAt(4, 1));
        Check.refused("behind twelve notes", INDEX, () -> Ledgers.withText("abcdefgabcde").noteAt(0, 12));
        ClauseLedger shorter = Ledgers.storied();
        shorter.deleteNote(0, 0);
        Check.refused("a position of an earlier text", INDEX, () -> shorter.noteAt(0, 2));
    }

    // Terms, for promise 24: "If several exceptions apply, the one that is listed first is thrown."
    static void noteFirstListed() {
        Check.leavesAsIs("clause and position", NO_ELEMENT, Ledgers::storied, x -> x.noteAt(2, -1));
        Check.leavesAsIs("clause and position behind", NO_ELEMENT, Ledgers::storied, x -> x.noteAt(5, 12));
    }

    // Promise 25: "Returns the number of versions of a clause."
    static void versions() {
        Check.same("the least", Ledgers.three().versionCount(0), 1);
        Check.same("two", Ledgers.storied().versionCount(0), 2);
        ClauseLedger eight = Ledgers.storiedWithManyVersions();
        Check.same("the greatest", eight.versionCount(0), 8);
        eight.undo();
        Check.same("undone", eight.versionCount(0), 7);
        eight.consolidate();
        Check.same("consolidated", eight.versionCount(0), 1);
    }

    // Promise 25: "Throws NoSuchElementException if there is no such clause"
    static void versionsOfNone() {
        for (int clause : NO_CLAUSE) {
            Check.leavesAsIs("clause " + clause, NO_ELEMENT, Ledgers::storied, x -> x.versionCount(clause));
        }
    }

    // Promise 26: "Returns the length of the text of a clause on a day."
    static void lengthsOnDays() {
        ClauseLedger ledger = Ledgers.storied();
        int[][] daysAndDue = {{0, 2}, {1, 3}, {2, 3}, {3, 3}, {9, 3}, {10, 3}, {GREATEST, 3}};
        for (int[] row : daysAndDue) {
            Check.same("day " + row[0], ledger.lengthOn(0, row[0]), row[1]);
        }
        Check.same("on the day it was added", ledger.lengthOn(4, 2), 1);
        Check.same("of a lapsed clause", ledger.lengthOn(1, 2), 1);
    }

    // Promise 26: "Throws NoSuchElementException if there is no such clause, or it has no text on this day"
    static void lengthOnNoDay() {
        for (int clause : NO_CLAUSE) {
            Check.leavesAsIs("clause " + clause, NO_ELEMENT, Ledgers::storied, x -> x.lengthOn(clause, 1));
        }
        for (int day : new int[] {-1, LEAST}) {
            Check.leavesAsIs("day " + day, NO_ELEMENT, Ledgers::storied, x -> x.lengthOn(0, day));
        }
        Check.leavesAsIs("the day before it was added", NO_ELEMENT, Ledgers::storied, x -> x.lengthOn(4, 1));
        ClauseLedger ledger = Ledgers.storied();
        ledger.consolidate();
        Check.refused("in force, but before the version that is kept", NO_ELEMENT, () -> ledger.lengthOn(0, 0));
        Check.same("on the day of the version that is kept", ledger.lengthOn(0, 1), 3);
    }

    // Promise 27: "Returns a note of the text of a clause on a day."
    static void notesOnDays() {
        ClauseLedger ledger = Ledgers.storied();
        Check.same("first day", Picture.textOn(ledger, 0, 0), "ab");
        Check.same("day of the amendment", Picture.textOn(ledger, 0, 1), "cab");
        Check.same("present day", Picture.textOn(ledger, 0, 2), "cab");
        Check.same("last of all days", Picture.textOn(ledger, 0, GREATEST), "cab");
        Check.same("the last note of twelve", Ledgers.withText("aaaaaaaaaaag").noteOn(0, 0, 11), 'g');
    }

    // Promise 27: "Throws NoSuchElementException if there is no such clause, or it has no text on this day"
    static void noteOnNoDay() {
        for (int clause : NO_CLAUSE) {
            Check.leavesAsIs("clause " + clause, NO_ELEMENT, Ledgers::storied, x -> x.noteOn(clause, 1, 0));
        }
        for (int day : new int[] {-1, LEAST}) {
            Check.leavesAsIs("day " + day, NO_ELEMENT, Ledgers::storied, x -> x.noteOn(0, day, 0));
        }
        Check.leavesAsIs("the day before it was added", NO_ELEMENT, Ledgers::storied, x -> x.noteOn(4, 1, 0));
    }

    // Promise 27: "Throws IndexOutOfBoundsException if the text has no such position"
    static void noteOnOutside() {
        for (int position : new int[] {-1, 3, 12, LEAST, GREATEST}) {
            Check.leavesAsIs("position " + position, INDEX, Ledgers::storied, x -> x.noteOn(0, 1, position));
        }
        Check.leavesAsIs("a position of a later text", INDEX, Ledgers::storied, x -> x.noteOn(0, 0, 2));
    }

    // Terms, for promise 27: "If several exceptions apply, the one that is listed first is thrown."
    static void noteOnFirstListed() {
        Check.leavesAsIs("clause and position", NO_ELEMENT, Ledgers::storied, x -> x.noteOn(2, 1, -1));
        Check.leavesAsIs("day and position", NO_ELEMENT, Ledgers::storied, x -> x.noteOn(0, -1, 3));
        Check.leavesAsIs("day and position -1", NO_ELEMENT, Ledgers::storied, x -> x.noteOn(4, 1, -1));
    }

    /** One of the two ways; each is tried on ledgers of its own, so that neither finds what the other left. */
    private interface Way {
        int difference(ClauseLedger ledger, int clause, int first, int second);
    }

    private static void differences(Way way) {
        int[][] daysAndDue = {{0, 0, 0}, {0, 1, 1}, {1, 0, 1}, {1, 2, 0}, {0, GREATEST, 1}, {GREATEST, 0, 1},
                {GREATEST, GREATEST, 0}};
        ClauseLedger ledger = Ledgers.storied();
        for (int[] row : daysAndDue) {
            Check.same("days " + row[0] + " and " + row[1], way.difference(ledger, 0, row[0], row[1]), row[2]);
        }
        Check.same("of a lapsed clause", way.difference(ledger, 1, 0, 2), 0);
        // From one note to eight, and from twelve to five.
        ClauseLedger longer = Ledgers.withText("a");
        ClauseLedger shorter = Ledgers.withText("gfedcbagfedc");
        longer.advance(1);
        shorter.advance(1);
        for (int count = 0; count < 7; count++) {
            longer.insertNote(0, 0, 'b');
            shorter.deleteNote(0, 2);
        }
        Check.same("seven notes more", way.difference(longer, 0, 0, 1), 7);
        Check.same("seven notes less", way.difference(shorter, 0, 0, 1), 7);
        // After a table for long texts, one for short texts.
        Check.same("short texts behind long ones", way.difference(ledger, 0, 0, 1), 1);
    }

    private static void differencesOfNone(Way way) {
        for (int clause : NO_CLAUSE) {
            Check.leavesAsIs("clause " + clause, NO_ELEMENT, Ledgers::storied,
                    x -> way.difference(x, clause, 1, 1));
        }
        for (int day : new int[] {-1, LEAST}) {
            Check.leavesAsIs("first " + day, NO_ELEMENT, Ledgers::storied, x -> way.difference(x, 0, day, 1));
            Check.leavesAsIs("second " + day, NO_ELEMENT, Ledgers::storied, x -> way.difference(x, 0, 1, day));
            Check.leavesAsIs("both " + day, NO_ELEMENT, Ledgers::storied, x -> way.difference(x, 0, day, day));
        }
        Check.leavesAsIs("first before it was added", NO_ELEMENT, Ledgers::storied, x -> way.difference(x, 4, 1, 2));
        Check.leavesAsIs("second before it was added", NO_ELEMENT, Ledgers::storied,
                x -> way.difference(x, 4, 2, 1));
    }

    // Promise 28: "Returns the difference of the texts of a clause on two days, found with a table for the beginnings
    // of the texts."
    static void differencesByBeginnings() {
        differences(ClauseLedger::difference);
    }

    // Promise 28: "Throws NoSuchElementException if there is no such clause, or it has no text on one of the days"
    static void differenceOfNone() {
        differencesOfNone(ClauseLedger::difference);
    }

    // Promise 29: "Returns the same number as difference, found with a table for the ends of the texts."
    static void differencesByEnds() {
        differences(ClauseLedger::differenceByEnds);
    }

    // Promise 29: "Throws NoSuchElementException if there is no such clause, or it has no text on one of the days"
    static void differenceByEndsOfNone() {
        differencesOfNone(ClauseLedger::differenceByEnds);
    }

    private static void pairs(ToIntFunction<ClauseLedger> way) {
        Check.same("empty", way.applyAsInt(new ClauseLedger()), 0);
        ClauseLedger ledger = new ClauseLedger();
        ledger.addClause(1, 'a');
        Check.same("one clause", way.applyAsInt(ledger), 0);
        ledger.addClause(2, 'a');
        Check.same("two clauses", way.applyAsInt(ledger), 1);
        ledger.insertNote(0, 1, 'a');
        Check.same("a beginning is not the same", way.applyAsInt(ledger), 0);
        ledger.insertNote(1, 0, 'a');
        Check.same("the same by other amendments", way.applyAsInt(ledger), 1);
        ledger.setSunset(0, 0);
        ledger.advance(1);
        Check.same("a lapsed clause counts", way.applyAsInt(ledger), 1);
        ledger.repeal(0);
        Check.same("a repealed one does not", way.applyAsInt(ledger), 0);
        Check.same("full, all the same", way.applyAsInt(Ledgers.full()), 120);
        Check.same("the order of notes counts", way.applyAsInt(anagrams()), 0);
        for (int number = 0; number < 7 * 7 * 7; number++) {
            pairOf(number, way);
        }
    }

    /** A pair of texts of three notes, counted again when it is none: no place in a hash map may remember it. */
    private static void pairOf(int number, ToIntFunction<ClauseLedger> way) {
        ClauseLedger ledger = new ClauseLedger();
        for (int id = 0; id < 2; id++) {
            ledger.addClause(id + 1, (char) ('a' + number % 7));
            ledger.insertNote(id, 0, (char) ('a' + number / 7 % 7));
            ledger.insertNote(id, 0, (char) ('a' + number / 49));
        }
        Check.same("text " + number, way.applyAsInt(ledger), 1);
        Check.same("text " + number + " again", way.applyAsInt(ledger), 1);
        ledger.deleteNote(1, 0);
        Check.same("text " + number + " once", way.applyAsInt(ledger), 0);
    }

    /** Sixteen clauses whose texts have the same notes in as many orders. */
    private static ClauseLedger anagrams() {
        ClauseLedger ledger = new ClauseLedger();
        for (int id = 0; id < 16; id++) {
            ledger.addClause(id + 1, 'a');
            ledger.insertNote(id, id & 1, 'b');
            ledger.insertNote(id, id / 2 % 3, 'c');
            ledger.insertNote(id, id / 6, 'd');
        }
        return ledger;
    }

    // Promise 30: "Returns the number of pairs of clauses that have the same present text, found with a hash map."
    static void pairsByHashMap() {
        pairs(ClauseLedger::duplicatePairs);
    }

    // Promise 31: "Returns the same number as duplicatePairs, found by comparing all pairs."
    static void pairsByComparing() {
        pairs(ClauseLedger::duplicatePairsByComparing);
    }
}
