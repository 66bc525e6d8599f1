import java.util.NoSuchElementException;

/** Promises 38 to 46. */
final class TotalsTest {
    private static final Class<NoSuchElementException> NO_ELEMENT = NoSuchElementException.class;
    private static final Class<ArithmeticException> ARITHMETIC = ArithmeticException.class;

    public static void main(String[] args) {
        promises38To41();
        promises42And43();
        promises44And45();
        promise46();
        Check.end();
    }

    private static void promises38To41() {
        ClauseLedger ledger = Ledgers.lapsed();
        ledger.insertNote(0, 0, 'a');
        ledger.replaceNote(0, 0, 'a');
        ledger.deleteNote(0, 0);
        Check.refused("39 refused", IllegalStateException.class, () -> ledger.insertNote(1, 0, 'a'));
        totals("before", ledger, 3, 3, 0, 0);
        ledger.repeal(2);
        totals("repealed", ledger, 3, 3, 1, 0);
        ledger.consolidate();
        totals("consolidated", ledger, 3, 3, 1, 1);
        ledger.addClause(9, 'a');
        totals("added", ledger, 4, 3, 1, 1);
        ledger.setSunset(0, 3);
        ledger.setSunset(3, 3);
        ledger.advance(1);
        ledger.consolidate();
        totals("two more", ledger, 4, 3, 1, 3);
        ledger.undo();
        totals("undone", ledger, 4, 3, 1, 1);
    }

    private static void totals(String what, ClauseLedger ledger, int added, int amended, int repealed, int ended) {
        Check.same("38 " + what, ledger.addedTotal(), added);
        Check.same("39 " + what, ledger.amendmentTotal(), amended);
        Check.same("40 " + what, ledger.repealedTotal(), repealed);
        Check.same("41 " + what, ledger.consolidatedTotal(), ended);
    }

    private static void promises42And43() {
        ClauseLedger ledger = new ClauseLedger();
        Check.refused("43 none", NO_ELEMENT, () -> ledger.editionDay(1));
        for (int edition = 1; edition <= 20; edition++) {
            ledger.advance(edition);
            ledger.consolidate();
            Check.same("42 after " + edition, ledger.editionCount(), edition);
            for (int asked = -1; asked <= edition + 1; asked++) {
                editionDay(ledger, edition, asked);
            }
        }
        ledger.undo();
        Check.same("42 undone", ledger.editionCount(), 19);
        Check.refused("43 undone", NO_ELEMENT, () -> ledger.editionDay(20));
        Check.same("43 known again", ledger.editionDay(14), 14 * 15 / 2);
        Check.refused("43 first int", NO_ELEMENT, () -> ledger.editionDay(Integer.MIN_VALUE));
        Check.refused("43 last int", NO_ELEMENT, () -> ledger.editionDay(Integer.MAX_VALUE));
    }

    private static void editionDay(ClauseLedger ledger, int latest, int asked) {
        boolean known = asked >= 1 && asked <= latest && asked > latest - 6;
        Object due = known ? (Object) (asked * (asked + 1) / 2) : NO_ELEMENT;
        Check.same("43 " + asked + " of " + latest, Check.answerOf(() -> ledger.editionDay(asked)), due);
    }

    private static void promises44And45() {
        ClauseLedger ledger = Ledgers.lapsed();
        Check.same("44 one note each", ledger.meanLength(), 1.0);
        ledger.insertNote(0, 0, 'a');
        Check.same("44 four by three", ledger.meanLength(), 4.0 / 3.0);
        Check.same("45 two by three", ledger.inForceShare(), 2.0f / 3.0f);
        ledger.setSunset(0, 3);
        Check.same("45 on a sunset", ledger.inForceShare(), 2.0f / 3.0f);
        ledger.advance(1);
        Check.same("45 one by three", ledger.inForceShare(), 1.0f / 3.0f);
        ledger.repeal(2);
        Check.same("45 none in force", ledger.inForceShare(), 0.0f);
        Check.same("44 three by two", ledger.meanLength(), 1.5);
        ledger.consolidate();
        Check.refused("44 no clauses", ARITHMETIC, ledger::meanLength);
        Check.refused("45 no clauses", ARITHMETIC, ledger::inForceShare);
    }

    private static void promise46() {
        Check.same("46 empty", new ClauseLedger().isConsistent(), true);
        ClauseLedger ledger = Ledgers.fourCites();
        ledger.cite(4, 0);
        ledger.setSunset(1, 0);
        ledger.advance(1);
        ledger.repeal(2);
        ledger.insertNote(0, 1, 'a');
        Check.same("46 amended", ledger.isConsistent(), true);
        ledger.consolidate();
        Check.same("46 consolidated", ledger.isConsistent(), true);
        ledger.undo();
        Check.same("46 undone", ledger.isConsistent(), true);
        Check.same("46 full", Ledgers.full().isConsistent(), true);
    }
}
