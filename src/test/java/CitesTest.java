import java.util.NoSuchElementException;

/** Promises 32 to 37. */
final class CitesTest {
    private static final Class<NoSuchElementException> NO_ELEMENT = NoSuchElementException.class;
    private static final Class<IndexOutOfBoundsException> INDEX = IndexOutOfBoundsException.class;

    public static void main(String[] args) {
        promises32And33();
        promise34();
        promises35And36();
        longWays();
        promise37();
        Check.end();
    }

    private static void promises32And33() {
        ClauseLedger ledger = Ledgers.fourCites();
        Check.same("32 four", ledger.citeCount(0), 4);
        Check.same("32 none", ledger.citeCount(5), 0);
        ledger.repeal(2);
        Check.same("32 a cite of none counts", ledger.citeCount(0), 4);
        Check.same("33 first", ledger.citeAt(0, 0), 1);
        Check.same("33 a clause that does not exist", ledger.citeAt(0, 1), 2);
        Check.same("33 last", ledger.citeAt(0, 3), 4);
        Check.refused("33 position 4", INDEX, () -> ledger.citeAt(0, 4));
        Check.refused("33 position -1", INDEX, () -> ledger.citeAt(0, -1));
        Check.refused("33 no cites", INDEX, () -> ledger.citeAt(5, 0));
        ledger.uncite(0, 1);
        Check.refused("33 position 3 of 3", INDEX, () -> ledger.citeAt(0, 3));
        Check.refused("32 no clause", NO_ELEMENT, () -> ledger.citeCount(2));
        Check.refused("33 no clause", NO_ELEMENT, () -> ledger.citeAt(6, -1));
        ledger.repeal(0);
        ledger.addClause(70, 'a');
        Check.same("32 a new clause has none", ledger.citeCount(6), 0);
    }

    private static void promise34() {
        ClauseLedger ledger = Ledgers.fourCites();
        ledger.cite(5, 1);
        Check.same("34 none", ledger.brokenCites(), 0);
        ledger.setSunset(1, 0);
        Check.same("34 in force on its sunset", ledger.brokenCites(), 0);
        ledger.advance(1);
        Check.same("34 lapsed", ledger.brokenCites(), 2);
        ledger.repeal(3);
        Check.same("34 repealed", ledger.brokenCites(), 3);
        ledger.repeal(5);
        Check.same("34 cites of none do not count", ledger.brokenCites(), 2);
        ledger.setSunset(0, 1);
        ledger.advance(1);
        Check.same("34 the citing one has lapsed", ledger.brokenCites(), 2);
        Check.same("34 empty", new ClauseLedger().brokenCites(), 0);
    }

    private static void indirectly(String what, ClauseLedger ledger, int clause, int cited, boolean due) {
        Check.same("35 " + what, ledger.citesIndirectly(clause, cited), due);
        Check.same("36 " + what, ledger.citesByClosure(clause, cited), due);
    }

    private static void promises35And36() {
        ClauseLedger ledger = Ledgers.three();
        ledger.addClause(40, 'd');
        indirectly("not itself", ledger, 0, 0, false);
        ledger.cite(0, 1);
        ledger.cite(1, 2);
        indirectly("one cite", ledger, 0, 1, true);
        indirectly("two cites", ledger, 0, 2, true);
        indirectly("not back", ledger, 2, 0, false);
        indirectly("not to itself", ledger, 0, 0, false);
        ledger.cite(2, 0);
        indirectly("itself", ledger, 0, 0, true);
        indirectly("itself, too", ledger, 1, 1, true);
        indirectly("not the fourth", ledger, 0, 3, false);
        indirectly("not from the fourth", ledger, 3, 0, false);
        ledger.setSunset(1, 0);
        ledger.advance(1);
        indirectly("by a lapsed one", ledger, 0, 2, true);
        ledger.repeal(1);
        indirectly("not by a repealed one", ledger, 0, 2, false);
        indirectly("the rest", ledger, 2, 0, true);
        ledger.addClause(20, 'a');
        indirectly("a new clause is not the repealed one", ledger, 0, 4, false);
        for (int none : new int[] {1, -1, 5}) {
            Check.refused("35 from " + none, NO_ELEMENT, () -> ledger.citesIndirectly(none, 0));
            Check.refused("35 to " + none, NO_ELEMENT, () -> ledger.citesIndirectly(0, none));
            Check.refused("36 from " + none, NO_ELEMENT, () -> ledger.citesByClosure(none, 0));
            Check.refused("36 to " + none, NO_ELEMENT, () -> ledger.citesByClosure(0, none));
        }
    }

    /** A ring through all 16 clauses in an order that jumps, so that each way is as long as can be. */
    private static void longWays() {
        ClauseLedger ledger = Ledgers.full();
        for (int step = 0; step < 15; step++) {
            ledger.cite(step * 5 % 16, (step + 1) * 5 % 16);
        }
        indirectly("the longest way", ledger, 0, 75 % 16, true);
        indirectly("the ring is open", ledger, 75 % 16, 0, false);
        ledger.cite(75 % 16, 0);
        for (int id = 0; id < 16; id++) {
            indirectly("ring from " + id, ledger, id, id, true);
        }
        ledger.uncite(5, 10);
        indirectly("cut", ledger, 0, 10, false);
    }

    private static void promise37() {
        ClauseLedger ledger = new ClauseLedger();
        ledger.addClause(40, 'a');
        ledger.addClause(30, 'b');
        ledger.addClause(20, 'c');
        ledger.addClause(10, 'd');
        Check.same("37 by section", ranks(ledger), "3210");
        ledger.cite(2, 0);
        ledger.cite(3, 0);
        ledger.cite(0, 1);
        ledger.cite(3, 2);
        Check.same("37 by citing clauses, then by section", ranks(ledger), "0213");
        ledger.repeal(3);
        Check.same("37 repealed ones do not cite", ranks(ledger), "102");
        ledger.setSunset(2, 0);
        ledger.advance(1);
        Check.same("37 lapsed ones cite", ranks(ledger), "102");
        Check.refused("37 rank 3 of 3", NO_ELEMENT, () -> ledger.clauseByCites(3));
        Check.refused("37 rank -1", NO_ELEMENT, () -> ledger.clauseByCites(-1));
        Check.refused("37 empty", NO_ELEMENT, () -> new ClauseLedger().clauseByCites(0));
    }

    private static String ranks(ClauseLedger ledger) {
        StringBuilder ranks = new StringBuilder();
        for (int rank = 0; rank < ledger.clauseCount(); rank++) {
            ranks.append(ledger.clauseByCites(rank));
        }
        return ranks.toString();
    }
}
