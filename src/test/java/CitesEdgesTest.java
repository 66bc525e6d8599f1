import java.util.NoSuchElementException;

/** The edges that promises 32 to 37 name, sentence by sentence. */
final class CitesEdgesTest {
    private static final Class<NoSuchElementException> NO_ELEMENT = NoSuchElementException.class;
    private static final Class<IndexOutOfBoundsException> INDEX = IndexOutOfBoundsException.class;
    private static final int LEAST = Integer.MIN_VALUE;
    private static final int GREATEST = Integer.MAX_VALUE;
    /** In a storied ledger: before the first id, repealed, not yet given, and far off. */
    private static final int[] NO_CLAUSE = {-1, 2, 5, LEAST, GREATEST};

    public static void main(String[] args) {
        Check.runAll(CitesEdgesTest.class);
        Check.end();
    }

    // Promise 32: "Returns the number of cites of a clause."
    static void counts() {
        Check.same("none", Ledgers.storied().citeCount(3), 0);
        Check.same("with broken ones", Ledgers.storied().citeCount(0), 3);
        Check.same("of a lapsed clause", Ledgers.storied().citeCount(1), 1);
        Check.same("the most", Ledgers.fourCites().citeCount(0), 4);
        ClauseLedger ledger = Ledgers.storied();
        ledger.consolidate();
        Check.same("after a consolidation", ledger.citeCount(0), 1);
    }

    // Promise 32: "Throws NoSuchElementException if there is no such clause"
    static void countOfNone() {
        for (int clause : NO_CLAUSE) {
            Check.leavesAsIs("clause " + clause, NO_ELEMENT, Ledgers::storied, x -> x.citeCount(clause));
        }
    }

    // Promise 33: "Returns the id of the cited clause, which may not exist."
    static void citedIds() {
        ClauseLedger ledger = Ledgers.storied();
        Check.same("first, lapsed", ledger.citeAt(0, 0), 1);
        Check.same("second, repealed", ledger.citeAt(0, 1), 2);
        Check.same("third", ledger.citeAt(0, 2), 3);
        Check.same("clause 0", ledger.citeAt(4, 0), 0);
        Check.same("the fourth", Ledgers.fourCites().citeAt(0, 3), 4);
    }

    // Promise 33: "Throws NoSuchElementException if there is no such clause"
    static void citeOfNone() {
        for (int clause : NO_CLAUSE) {
            Check.leavesAsIs("clause " + clause, NO_ELEMENT, Ledgers::storied, x -> x.citeAt(clause, 0));
        }
    }

    // Promise 33: "Throws IndexOutOfBoundsException if there is no such position"
    static void citeOutside() {
        for (int position : new int[] {-1, 3, 4, LEAST, GREATEST}) {
            Check.leavesAsIs("position " + position, INDEX, Ledgers::storied, x -> x.citeAt(0, position));
        }
        Check.leavesAsIs("no cites", INDEX, Ledgers::storied, x -> x.citeAt(3, 0));
        Check.leavesAsIs("behind four", INDEX, Ledgers::fourCites, x -> x.citeAt(0, 4));
        ClauseLedger ledger = Ledgers.fourCites();
        ledger.uncite(0, 2);
        Check.refused("the fourth is gone", INDEX, () -> ledger.citeAt(0, 3));
        Check.same("the third", ledger.citeAt(0, 2), 4);
    }

    // Terms, for promise 33: "If several exceptions apply, the one that is listed first is thrown."
    static void citeFirstListed() {
        Check.leavesAsIs("clause and position", NO_ELEMENT, Ledgers::storied, x -> x.citeAt(2, -1));
        Check.leavesAsIs("clause and position behind", NO_ELEMENT, Ledgers::storied, x -> x.citeAt(5, 4));
    }

    // Promise 34: "Returns the number of broken cites of all clauses."
    static void broken() {
        Check.same("empty", new ClauseLedger().brokenCites(), 0);
        Check.same("no cites", Ledgers.three().brokenCites(), 0);
        Check.same("no broken ones", Ledgers.fourCites().brokenCites(), 0);
        ClauseLedger ledger = Ledgers.storied();
        Check.same("also those of a lapsed clause", ledger.brokenCites(), 3);
        ledger.advance(7);
        Check.same("on a sunset", ledger.brokenCites(), 3);
        ledger.advance(1);
        Check.same("the day after", ledger.brokenCites(), 4);
        ledger.repeal(0);
        Check.same("not those of a clause that is gone", ledger.brokenCites(), 2);
        ledger.consolidate();
        Check.same("none is left", ledger.brokenCites(), 0);
        Check.same("the most", allBroken().brokenCites(), 60);
    }

    /** Fifteen clauses with four cites each of clauses that are not in force. */
    private static ClauseLedger allBroken() {
        ClauseLedger ledger = Ledgers.full();
        for (int id = 0; id < 15; id++) {
            for (int step = 1; step <= 4; step++) {
                ledger.cite(id, (id + step) % 15);
            }
            ledger.setSunset(id, 0);
        }
        ledger.advance(1);
        return ledger;
    }

    /** One of the two ways; each is tried on ledgers of its own, so that neither finds what the other left. */
    private interface Way {
        boolean cites(ClauseLedger ledger, int clause, int cited);
    }

    private static void indirectCites(Way way) {
        ClauseLedger ledger = Ledgers.storied();
        Check.same("one cite", way.cites(ledger, 4, 0), true);
        Check.same("two cites", way.cites(ledger, 4, 3), true);
        Check.same("back", way.cites(ledger, 3, 4), false);
        Check.same("itself, without a cite", way.cites(ledger, 3, 3), false);
        Check.same("a lapsed clause", way.cites(ledger, 4, 1), true);
        ledger.cite(1, 4);
        Check.same("itself, by way of a lapsed clause", way.cites(ledger, 0, 0), true);
        ledger.repeal(1);
        Check.same("itself, by way of none", way.cites(ledger, 0, 0), false);

        ClauseLedger pair = Ledgers.three();
        pair.cite(0, 1);
        pair.cite(1, 0);
        Check.same("itself, two cites", way.cites(pair, 0, 0), true);
        Check.same("the third", way.cites(pair, 0, 2), false);

        // Every clause of sixteen cites the next four, and the last ones the first.
        ClauseLedger full = Ledgers.full();
        for (int id = 0; id < 16; id++) {
            for (int step = 1; step <= 4; step++) {
                full.cite(id, (id + step) % 16);
            }
        }
        for (int cited = 0; cited < 16; cited++) {
            Check.same("all of sixteen, " + cited, way.cites(full, 7, cited), true);
        }
    }

    /** A chain through all sixteen clauses, down the ids or up. */
    private static void longestWay(Way way, boolean down) {
        ClauseLedger ledger = Ledgers.full();
        for (int id = 1; id < 16; id++) {
            ledger.cite(down ? id : id - 1, down ? id - 1 : id);
        }
        int first = down ? 15 : 0;
        Check.same("fifteen cites", way.cites(ledger, first, 15 - first), true);
        Check.same("not back", way.cites(ledger, 15 - first, first), false);
        Check.same("not itself", way.cites(ledger, first, first), false);
        ledger.cite(15 - first, first);
        Check.same("sixteen cites, to itself", way.cites(ledger, first, first), true);
        ledger.repeal(8);
        Check.same("a gap", way.cites(ledger, first, 15 - first), false);
    }

    private static void indirectCitesOfNone(Way way) {
        for (int clause : NO_CLAUSE) {
            Check.leavesAsIs("from " + clause, NO_ELEMENT, Ledgers::storied, x -> way.cites(x, clause, 0));
            Check.leavesAsIs("to " + clause, NO_ELEMENT, Ledgers::storied, x -> way.cites(x, 0, clause));
            Check.leavesAsIs("both " + clause, NO_ELEMENT, Ledgers::storied, x -> way.cites(x, clause, clause));
        }
        Check.refused("in an empty book", NO_ELEMENT, () -> way.cites(new ClauseLedger(), 0, 0));
    }

    // Promise 35: "Returns whether a clause cites another one indirectly, found by a search."
    static void bySearch() {
        indirectCites(ClauseLedger::citesIndirectly);
        longestWay(ClauseLedger::citesIndirectly, true);
        longestWay(ClauseLedger::citesIndirectly, false);
    }

    // Promise 35: "Throws NoSuchElementException if there is no such clause, for either argument"
    static void bySearchOfNone() {
        indirectCitesOfNone(ClauseLedger::citesIndirectly);
    }

    // Promise 36: "Returns the same as citesIndirectly, found by the transitive closure of all cites."
    static void byClosure() {
        indirectCites(ClauseLedger::citesByClosure);
        longestWay(ClauseLedger::citesByClosure, true);
        longestWay(ClauseLedger::citesByClosure, false);
    }

    // Promise 36: "Throws NoSuchElementException if there is no such clause, for either argument"
    static void byClosureOfNone() {
        indirectCitesOfNone(ClauseLedger::citesByClosure);
    }

    // Promise 37: "Returns the clause at a rank when clauses are sorted by the number of existing clauses that cite
    // them in descending order, then by section number in ascending order."
    static void ranks() {
        ClauseLedger ledger = Ledgers.storied();
        ranked("storied", ledger, 0, 1, 3, 4);
        ledger.cite(4, 3);
        ranked("one with two", ledger, 3, 0, 1, 4);
        ledger.repeal(0);
        ranked("not by a clause that is gone", ledger, 3, 1, 4);
        ledger.cite(1, 4);
        ranked("by a lapsed one", ledger, 3, 4, 1);
        ledger.uncite(4, 3);
        ranked("no more", ledger, 4, 1, 3);
        ranked("the same, by section", Ledgers.full(), 15, 14, 13, 12, 11, 10, 9, 8, 7, 6, 5, 4, 3, 2, 1, 0);
        ClauseLedger most = Ledgers.full();
        for (int id = 1; id < 16; id++) {
            most.cite(id, 0);
        }
        Check.same("cited by fifteen", most.clauseByCites(0), 0);
        Check.same("the next", most.clauseByCites(1), 15);
        Check.same("the last of sixteen", most.clauseByCites(15), 1);
    }

    private static void ranked(String what, ClauseLedger ledger, int... due) {
        for (int rank = 0; rank < due.length; rank++) {
            Check.same(what + ", rank " + rank, ledger.clauseByCites(rank), due[rank]);
        }
        Check.refused(what + ", rank " + due.length, NO_ELEMENT, () -> ledger.clauseByCites(due.length));
    }

    // Promise 37: "Throws NoSuchElementException if there is no such rank"
    static void noRank() {
        for (int rank : new int[] {-1, 4, 15, 16, LEAST, GREATEST}) {
            Check.leavesAsIs("rank " + rank, NO_ELEMENT, Ledgers::storied, x -> x.clauseByCites(rank));
        }
        Check.refused("in an empty book", NO_ELEMENT, () -> new ClauseLedger().clauseByCites(0));
        Check.refused("in a full book", NO_ELEMENT, () -> Ledgers.full().clauseByCites(16));
    }
}
