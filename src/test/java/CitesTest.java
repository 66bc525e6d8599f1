import java.util.NoSuchElementException;

/** Promises 32 to 37. */
final class CitesTest {
    private static final Class<NoSuchElementException> NO_ELEMENT = NoSuchElementException.class;
    private static final Class<IndexOutOfBoundsException> INDEX = IndexOutOfBoundsException.class;

    public static void main(String[] args) {
        promises32And33();
        promise34();
        shortWays("35", ClauseLedger::citesIndirectly);
        shortWays("36", ClauseLedger::citesByClosure);
        longWays("35", ClauseLedger::citesIndirectly);
        longWays("36", ClauseLedger::citesByClosure);
        promise37();
        Check.end();
    }

    private static void promises32And33() {
        ClauseLedger ledger = Ledgers.fourCites();
        Check.same("32 four", ledger.citeCount(0), 4);
        Check.same("32 none", ledger.citeCount(5), 0);
        ledger.repeal(2);
        Check.same("32 a cite of none counts", ledger.citeCount(0), 4);
        Check.same("33 first", ledger.citeAt(0, 0), 1);
        Check.same("33 a clause that does not exist", ledger.citeAt(0, 1), 2);
        Check.same("33 last", ledger.citeAt(0, 3), 4);
        Check.refused("33 position 4", INDEX, () -> ledger.citeAt(0, 4));
        Check.refused("33 position -1", INDEX, () -> ledger.citeAt(0, -1));
        Check.refused("33 no cites", INDEX, () -> ledger.citeAt(5, 0));
        ledger.uncite(0, 1);
        Check.refused("33 position 3 of 3", INDEX, () -> ledger.citeAt(0, 3));
        Check.refused("32 no clause", NO_ELEMENT, () -> ledger.citeCount(2));
        Check.refused("33 no clause", NO_ELEMENT, () -> ledger.citeAt(6, -1));
        ledger.repeal(0);
        ledger.addClause(70, 'a');
        Check.same("32 a new clause has none", ledger.citeCount(6), 0);
    }

    private static void promise34() {
        ClauseLedger ledger = Ledgers.fourCites();
        ledger.cite(5, 1);
        Check.same("34 none", ledger.brokenCites(), 0);
        ledger.setSunset(1, 0);
        Check.same("34 in force on its sunset", ledger.brokenCites(), 0);
        ledger.advance(1);
        Check.same("34 lapsed", ledger.brokenCites(), 2);
        ledger.repeal(3);
        Check.same("34 repealed", ledger.brokenCites(), 3);
        ledger.repeal(5);
        Check.same("34 cites of none do not count", ledger.brokenCites(), 2);
        ledger.setSunset(0, 1);
        ledger.advance(1);
        Check.same("34 the citing one has lapsed", ledger.brokenCites(), 2);
        Check.same("34 empty", new ClauseLedger().brokenCites(), 0);
    }

    /** One of the two ways; each is tried on ledgers of its own, so that neither finds what the other left. */
    private interface Way {
        boolean cites(ClauseLedger ledger, int clause, int cited);
    }

    private static void shortWays(String promise, Way way) {
        ClauseLedger ledger = Ledgers.three();
        ledger.addClause(40, 'd');
        Check.same(promise + " not itself", way.cites(ledger, 0, 0), false);
        ledger.cite(0, 1);
        ledger.cite(1, 2);
        Check.same(promise + " one cite", way.cites(ledger, 0, 1), true);
        Check.same(promise + " two cites", way.cites(ledger, 0, 2), true);
        Check.same(promise + " not back", way.cites(ledger, 2, 0), false);
        Check.same(promise + " not to itself", way.cites(ledger, 0, 0), false);
        ledger.cite(2, 0);
        Check.same(promise + " itself", way.cites(ledger, 0, 0), true);
        Check.same(promise + " itself, too", way.cites(ledger, 1, 1), true);
        Check.same(promise + " not the fourth", way.cites(ledger, 0, 3), false);
        Check.same(promise + " not from the fourth", way.cites(ledger, 3, 0), false);
        ledger.setSunset(1, 0);
        ledger.advance(1);
        Check.same(promise + " by a lapsed one", way.cites(ledger, 0, 2), true);
        ledger.repeal(1);
        Check.same(promise + " not by a repealed one", way.cites(ledger, 0, 2), false);
        Check.same(promise + " the rest", way.cites(ledger, 2, 0), true);
        ledger.addClause(20, 'a');
        Check.same(promise + " a new clause is not the repealed one", way.cites(ledger, 0, 4), false);
        for (int none : new int[] {1, -1, 5}) {
            Check.refused(promise + " from " + none, NO_ELEMENT, () -> way.cites(ledger, none, 0));
            Check.refused(promise + " to " + none, NO_ELEMENT, () -> way.cites(ledger, 0, none));
        }
    }

    /** A ring through all 16 clauses in an order that jumps, so that each way is as long as can be. */
    private static void longWays(String promise, Way way) {
        ClauseLedger ledger = Ledgers.full();
        for (int step = 0; step < 15; step++) {
            ledger.cite(step * 5 % 16, (step + 1) * 5 % 16);
        }
        Check.same(promise + " the longest way", way.cites(ledger, 0, 75 % 16), true);
        Check.same(promise + " the ring is open", way.cites(ledger, 75 % 16, 0), false);
        ledger.cite(75 % 16, 0);
        for (int id = 0; id < 16; id++) {
            Check.same(promise + " ring from " + id, way.cites(ledger, id, id), true);
        }
        ledger.uncite(5, 10);
        Check.same(promise + " cut", way.cites(ledger, 0, 10), false);
    }

    private static void promise37() {
        ClauseLedger ledger = new ClauseLedger();
        ledger.addClause(40, 'a');
        ledger.addClause(30, 'b');
        ledger.addClause(20, 'c');
        ledger.addClause(10, 'd');
        Check.same("37 by section", ranks(ledger), "3210");
        ledger.cite(2, 0);
        ledger.cite(3, 0);
        ledger.cite(0, 1);
        ledger.cite(3, 2);
        Check.same("37 first of those cited", ledger.clauseByCites(0), 0);
        Check.same("37 by citing clauses, then by section", ranks(ledger), "0213");
        ledger.repeal(3);
        Check.same("37 repealed ones do not cite", ranks(ledger), "102");
        ledger.setSunset(2, 0);
        ledger.advance(1);
        Check.same("37 lapsed ones cite", ranks(ledger), "102");
        Check.refused("37 rank 3 of 3", NO_ELEMENT, () -> ledger.clauseByCites(3));
        Check.refused("37 rank -1", NO_ELEMENT, () -> ledger.clauseByCites(-1));
        Check.refused("37 empty", NO_ELEMENT, () -> new ClauseLedger().clauseByCites(0));
    }

    private static String ranks(ClauseLedger ledger) {
        StringBuilder ranks = new StringBuilder();
        for (int rank = 0; rank < ledger.clauseCount(); rank++) {
            ranks.append(ledger.clauseByCites(rank));
        }
        return ranks.toString();
    }
}
