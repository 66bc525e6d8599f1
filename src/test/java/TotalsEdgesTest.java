import java.util.NoSuchElementException;

/** The edges that promises 38 to 46 name, sentence by sentence. */
final class TotalsEdgesTest {
    private static final Class<NoSuchElementException> NO_ELEMENT = NoSuchElementException.class;
    private static final Class<ArithmeticException> ARITHMETIC = ArithmeticException.class;
    private static final Class<IllegalStateException> STATE = IllegalStateException.class;
    private static final Class<UnsupportedOperationException> UNSUPPORTED = UnsupportedOperationException.class;
    private static final int LEAST = Integer.MIN_VALUE;
    private static final int GREATEST = Integer.MAX_VALUE;

    public static void main(String[] args) {
        Check.runAll(TotalsEdgesTest.class);
        Check.end();
    }

    /** A storied ledger without clauses: two of its clauses ended by repeals, three by consolidations. */
    private static ClauseLedger emptied() {
        ClauseLedger ledger = Ledgers.storied();
        ledger.setSunset(0, 2);
        ledger.setSunset(3, 2);
        ledger.repeal(4);
        ledger.advance(1);
        ledger.consolidate();
        return ledger;
    }

    // Promise 38: "Returns the number of clauses that have been added so far."
    static void added() {
        Check.same("none", new ClauseLedger().addedTotal(), 0);
        Check.same("those that are gone count", emptied().addedTotal(), 5);
        ClauseLedger ledger = Ledgers.full();
        Check.refused("full", STATE, () -> ledger.addClause(99, 'a'));
        Check.same("a refused one does not", ledger.addedTotal(), 16);
        ledger.undo();
        Check.same("an undone one does not", ledger.addedTotal(), 15);
    }

    // Promise 39: "Returns the number of amendments so far."
    static void amended() {
        Check.same("none", Ledgers.three().amendmentTotal(), 0);
        Check.same("those of clauses that are gone count", emptied().amendmentTotal(), 2);
        ClauseLedger ledger = Ledgers.storiedWithManyVersions();
        Check.refused("no ninth version", STATE, () -> ledger.replaceNote(0, 0, 'a'));
        Check.refused("no note is left", UNSUPPORTED, () -> ledger.deleteNote(4, 0));
        Check.same("refused ones do not", ledger.amendmentTotal(), 8);
        ledger.consolidate();
        Check.same("versions that are not kept do", ledger.amendmentTotal(), 8);
        ledger.replaceNote(4, 0, 'e');
        Check.same("the same text does", ledger.amendmentTotal(), 9);
        ledger.undo();
        Check.same("an undone one does not", ledger.amendmentTotal(), 8);
    }

    // Promise 40: "Returns the number of clauses that have been repealed so far."
    static void repealed() {
        Check.same("none", Ledgers.full().repealedTotal(), 0);
        Check.same("not those ended by consolidations", emptied().repealedTotal(), 2);
        ClauseLedger ledger = Ledgers.full();
        for (int id = 0; id < 16; id++) {
            ledger.repeal(id);
        }
        Check.refused("a second time", NO_ELEMENT, () -> ledger.repeal(15));
        Check.same("all", ledger.repealedTotal(), 16);
        ledger.undo();
        Check.same("an undone one does not count", ledger.repealedTotal(), 15);
    }

    // Promise 41: "Returns the number of clauses that ceased to exist by consolidations so far."
    static void consolidated() {
        Check.same("none", Ledgers.storied().consolidatedTotal(), 0);
        Check.same("over more than one consolidation", emptied().consolidatedTotal(), 3);
        ClauseLedger ledger = Ledgers.full();
        for (int id = 0; id < 16; id++) {
            ledger.setSunset(id, 0);
        }
        ledger.consolidate();
        Check.same("on the sunset", ledger.consolidatedTotal(), 0);
        ledger.advance(1);
        Check.same("lapsed, not yet consolidated", ledger.consolidatedTotal(), 0);
        ledger.consolidate();
        Check.same("all sixteen", ledger.consolidatedTotal(), 16);
        ledger.consolidate();
        Check.same("no more", ledger.consolidatedTotal(), 16);
        ledger.undo();
        ledger.undo();
        Check.same("undone ones do not count", ledger.consolidatedTotal(), 0);
    }

    // Promise 42: "Returns the number of editions."
    static void editions() {
        ClauseLedger ledger = new ClauseLedger();
        Check.same("none", ledger.editionCount(), 0);
        for (int edition = 1; edition <= 13; edition++) {
            ledger.consolidate();
            Check.same("editions", ledger.editionCount(), edition);
        }
        ledger.undo();
        Check.same("undone", ledger.editionCount(), 12);
    }

    // Promise 43: "Returns the day of an edition."
    static void editionDays() {
        ClauseLedger ledger = new ClauseLedger();
        ledger.consolidate();
        Check.same("day 0", ledger.editionDay(1), 0);
        ledger.consolidate();
        ledger.advance(400);
        ledger.consolidate();
        Check.same("two on a day", ledger.editionDay(2), 0);
        Check.same("a later day", ledger.editionDay(3), 400);
        ledger.advance(1);
        Check.same("it stays", ledger.editionDay(3), 400);
    }

    // Promise 43: "Throws NoSuchElementException if there is no such edition, or it is not among the latest 6"
    static void noEdition() {
        for (int edition : new int[] {0, 2, -1, -5, LEAST, GREATEST}) {
            Check.leavesAsIs("edition " + edition, NO_ELEMENT, Ledgers::storied, x -> x.editionDay(edition));
        }
        Check.refused("none yet", NO_ELEMENT, () -> new ClauseLedger().editionDay(1));
        ClauseLedger ledger = new ClauseLedger();
        for (int edition = 1; edition <= 6; edition++) {
            ledger.consolidate();
            ledger.advance(1);
        }
        Check.same("the first of six", ledger.editionDay(1), 0);
        Check.refused("0 of six", NO_ELEMENT, () -> ledger.editionDay(0));
        ledger.consolidate();
        Check.refused("the first of seven", NO_ELEMENT, () -> ledger.editionDay(1));
        Check.same("the second of seven", ledger.editionDay(2), 1);
        Check.same("the last of seven", ledger.editionDay(7), 6);
        Check.refused("the eighth of seven", NO_ELEMENT, () -> ledger.editionDay(8));
        ledger.undo();
        Check.same("the first again", ledger.editionDay(1), 0);
        Check.refused("the seventh no more", NO_ELEMENT, () -> ledger.editionDay(7));
    }

    // Promise 44: "Returns the mean length of the present texts: the sum divided by the number of clauses, both
    // converted to double."
    static void meanLengths() {
        Check.same("the least", Ledgers.full().meanLength(), 1.0);
        Check.same("the greatest", Ledgers.withText("abcdefgabcde").meanLength(), 12.0);
        Check.same("lapsed clauses count", Ledgers.storied().meanLength(), 1.5);
        ClauseLedger ledger = Ledgers.three();
        ledger.insertNote(0, 0, 'a');
        Check.same("4 by 3 as a double", ledger.meanLength(), 4.0 / 3.0);
        ledger.insertNote(0, 0, 'a');
        Check.same("5 by 3 as a double", ledger.meanLength(), 5.0 / 3.0);
    }

    // Promise 44: "Throws ArithmeticException if there are no clauses"
    static void meanOfNone() {
        Check.leavesAsIs("no more", ARITHMETIC, TotalsEdgesTest::emptied, ClauseLedger::meanLength);
        Check.leavesAsIs("none yet", ARITHMETIC, ClauseLedger::new, ClauseLedger::meanLength);
        Check.same("one", Ledgers.withText("ab").meanLength(), 2.0);
    }

    // Promise 45: "Returns the share of the clauses that are in force on the present day: their number divided by the
    // number of clauses, both converted to float."
    static void shares() {
        Check.same("all", Ledgers.full().inForceShare(), 1.0f);
        Check.same("three of four", Ledgers.storied().inForceShare(), 0.75f);
        Check.same("two of three as a float", Ledgers.lapsed().inForceShare(), 2.0f / 3.0f);
        ClauseLedger ledger = Ledgers.withText("ab");
        ledger.setSunset(0, 0);
        Check.same("on the sunset", ledger.inForceShare(), 1.0f);
        ledger.advance(1);
        Check.same("none of one", ledger.inForceShare(), 0.0f);
    }

    // Promise 45: "Throws ArithmeticException if there are no clauses"
    static void shareOfNone() {
        Check.leavesAsIs("no more", ARITHMETIC, TotalsEdgesTest::emptied, ClauseLedger::inForceShare);
        Check.leavesAsIs("none yet", ARITHMETIC, ClauseLedger::new, ClauseLedger::inForceShare);
    }

    // Promise 46: "Returns true if all of this holds."
    static void consistent() {
        Check.same("empty", new ClauseLedger().isConsistent(), true);
        Check.same("full", Ledgers.full().isConsistent(), true);
        Check.same("storied", Ledgers.storied().isConsistent(), true);
        Check.same("storied and full", Ledgers.storiedAndFull().isConsistent(), true);
        Check.same("eight versions", Ledgers.storiedWithManyVersions().isConsistent(), true);
        Check.same("emptied", emptied().isConsistent(), true);
        ClauseLedger ledger = emptied();
        ledger.undo();
        Check.same("undone", ledger.isConsistent(), true);
        ledger.restore();
        Check.same("restored", ledger.isConsistent(), true);
    }
}
