import java.util.NoSuchElementException;

/** The edges that promises 12 to 22 name, sentence by sentence. */
final class ClausesEdgesTest {
    private static final Class<NoSuchElementException> NO_ELEMENT = NoSuchElementException.class;
    private static final int LEAST = Integer.MIN_VALUE;
    private static final int GREATEST = Integer.MAX_VALUE;
    /** In a storied ledger: before the first id, repealed, not yet given, and far off. */
    private static final int[] NO_CLAUSE = {-1, 2, 5, LEAST, GREATEST};

    public static void main(String[] args) {
        Check.runAll(ClausesEdgesTest.class);
        Check.end();
    }

    // Promise 12: "Returns the present day."
    static void presentDay() {
        ClauseLedger ledger = new ClauseLedger();
        Check.same("first", ledger.day(), 0);
        ledger.advance(400);
        Check.same("400 days on", ledger.day(), 400);
        ledger.undo();
        Check.same("undone", ledger.day(), 0);
    }

    // Promise 13: "Returns the number of clauses."
    static void countOfClauses() {
        Check.same("empty", new ClauseLedger().clauseCount(), 0);
        Check.same("full", Ledgers.full().clauseCount(), 16);
        Check.same("lapsed ones count, repealed ones do not", Ledgers.storied().clauseCount(), 4);
        ClauseLedger ledger = Ledgers.storied();
        ledger.consolidate();
        Check.same("lapsed ones are gone", ledger.clauseCount(), 3);
    }

    // Promise 14: "Returns a clause by its position in the order of section numbers."
    static void positionsInOrder() {
        ClauseLedger full = Ledgers.full();
        for (int position = 0; position < 16; position++) {
            Check.same("position " + position, full.clauseAt(position), 15 - position);
        }
        ClauseLedger ledger = Ledgers.storied();
        ledger.addClause(3, 'a');
        int[] due = {0, 1, 5, 3, 4};
        for (int position = 0; position < due.length; position++) {
            Check.same("storied, position " + position, ledger.clauseAt(position), due[position]);
        }
    }

    // Promise 14: "Throws NoSuchElementException if there is no such position"
    static void noPosition() {
        for (int position : new int[] {-1, 4, 15, 16, LEAST, GREATEST}) {
            Check.leavesAsIs("position " + position, NO_ELEMENT, Ledgers::storied, x -> x.clauseAt(position));
        }
        Check.same("the last one", Ledgers.storied().clauseAt(3), 4);
        Check.refused("in an empty book", NO_ELEMENT, () -> new ClauseLedger().clauseAt(0));
        Check.refused("in a full book", NO_ELEMENT, () -> Ledgers.full().clauseAt(16));
    }

    // Promise 15: "any number"
    static void anySection() {
        ClauseLedger ledger = Ledgers.storied();
        Check.same("1", ledger.clauseOfSection(1), 0);
        Check.same("of a lapsed clause", ledger.clauseOfSection(2), 1);
        ledger.addClause(99, 'a');
        Check.same("99", ledger.clauseOfSection(99), 5);
    }

    // Promise 15: "Throws NoSuchElementException if there is none"
    static void noSection() {
        // 3 is of a repealed clause, 10 and 20 were sections ahead of the consolidation.
        for (int section : new int[] {0, 3, 5, 10, 20, 49, 51, 99, 100, -1, LEAST, GREATEST}) {
            Check.leavesAsIs("section " + section, NO_ELEMENT, Ledgers::storied, x -> x.clauseOfSection(section));
        }
        Check.refused("in an empty book", NO_ELEMENT, () -> new ClauseLedger().clauseOfSection(1));
        Check.refused("0, as empty places have", NO_ELEMENT, () -> new ClauseLedger().clauseOfSection(0));
    }

    // Promise 16: "Throws NoSuchElementException if there is no such clause"
    static void sectionOfNone() {
        for (int clause : NO_CLAUSE) {
            Check.leavesAsIs("clause " + clause, NO_ELEMENT, Ledgers::storied, x -> x.section(clause));
        }
        Check.same("the first clause", Ledgers.storied().section(0), 1);
        Check.same("a lapsed clause", Ledgers.storied().section(1), 2);
        Check.same("the last clause", Ledgers.storied().section(4), 50);
    }

    // Promise 17: "Throws NoSuchElementException if there is no such clause"
    static void enactmentOfNone() {
        for (int clause : NO_CLAUSE) {
            Check.leavesAsIs("clause " + clause, NO_ELEMENT, Ledgers::storied, x -> x.enactedOn(clause));
        }
        Check.same("the first clause", Ledgers.storied().enactedOn(0), 0);
        Check.same("a lapsed clause", Ledgers.storied().enactedOn(1), 0);
        Check.same("the last clause", Ledgers.storied().enactedOn(4), 2);
    }

    // Promise 18: "Throws NoSuchElementException if there is no such clause, or it has no sunset"
    static void sunsetOfNone() {
        for (int clause : NO_CLAUSE) {
            Check.leavesAsIs("clause " + clause, NO_ELEMENT, Ledgers::storied, x -> x.sunset(clause));
        }
        Check.leavesAsIs("no sunset", NO_ELEMENT, Ledgers::storied, x -> x.sunset(3));
        Check.leavesAsIs("no sunset, the last clause", NO_ELEMENT, Ledgers::storied, x -> x.sunset(4));
        Check.same("a sunset", Ledgers.storied().sunset(0), 9);
        Check.same("the sunset of a lapsed clause", Ledgers.storied().sunset(1), 1);
        ClauseLedger ledger = Ledgers.three();
        ledger.setSunset(0, 0);
        Check.same("day 0", ledger.sunset(0), 0);
        ledger.undo();
        Check.refused("undone", NO_ELEMENT, () -> ledger.sunset(0));
    }

    // Promise 19: "any day"
    static void inForceOnAnyDay() {
        ClauseLedger ledger = Ledgers.storied();
        int[] days = {LEAST, -1, 0, 9, 10, GREATEST};
        boolean[] withSunset = {false, false, true, true, false, false};
        boolean[] without = {false, false, true, true, true, true};
        for (int index = 0; index < days.length; index++) {
            Check.same("with a sunset, " + days[index], ledger.isInForce(0, days[index]), withSunset[index]);
            Check.same("without, " + days[index], ledger.isInForce(3, days[index]), without[index]);
        }
        Check.same("the day before it was enacted", ledger.isInForce(4, 1), false);
        Check.same("on the day it was enacted", ledger.isInForce(4, 2), true);
        Check.same("a lapsed clause on its sunset", ledger.isInForce(1, 1), true);
        Check.same("a lapsed clause now", ledger.isInForce(1, 2), false);
    }

    // Promise 19: "Throws NoSuchElementException if there is no such clause"
    static void inForceOfNone() {
        for (int clause : NO_CLAUSE) {
            Check.leavesAsIs("clause " + clause, NO_ELEMENT, Ledgers::storied, x -> x.isInForce(clause, 0));
            Check.leavesAsIs("clause " + clause + ", no day", NO_ELEMENT, Ledgers::storied,
                    x -> x.isInForce(clause, -1));
        }
    }

    // Promise 20: "Returns true if it has lapsed."
    static void lapsedOrNot() {
        ClauseLedger ledger = Ledgers.storied();
        Check.same("lapsed", ledger.hasLapsed(1), true);
        Check.same("without a sunset", ledger.hasLapsed(3), false);
        ledger.advance(7);
        Check.same("on the sunset", ledger.hasLapsed(0), false);
        ledger.advance(1);
        Check.same("the day after", ledger.hasLapsed(0), true);
        ledger.undo();
        Check.same("undone", ledger.hasLapsed(0), false);
    }

    // Promise 20: "Throws NoSuchElementException if there is no such clause"
    static void lapseOfNone() {
        for (int clause : NO_CLAUSE) {
            Check.leavesAsIs("clause " + clause, NO_ELEMENT, Ledgers::storied, x -> x.hasLapsed(clause));
        }
    }

    // Promise 21: "Returns how many of the clauses that exist now are in force on a day."
    static void countInForce() {
        ClauseLedger ledger = Ledgers.storied();
        int[][] daysAndDue = {{LEAST, 0}, {-1, 0}, {0, 3}, {1, 3}, {2, 3}, {9, 3}, {10, 2}, {GREATEST, 2}};
        for (int[] row : daysAndDue) {
            Check.same("day " + row[0], ledger.inForceOn(row[0]), row[1]);
        }
        ledger.repeal(3);
        Check.same("without a repealed one", ledger.inForceOn(0), 2);
        ledger.consolidate();
        Check.same("without one that lapsed", ledger.inForceOn(0), 1);
        Check.same("empty", new ClauseLedger().inForceOn(0), 0);
        Check.same("full", Ledgers.full().inForceOn(0), 16);
        Check.same("full, the day before", Ledgers.full().inForceOn(-1), 0);
    }

    // Promise 22: "Returns the number of days, 0 if it has lapsed."
    static void daysLeft() {
        ClauseLedger ledger = new ClauseLedger();
        ledger.addClause(1, 'a');
        ledger.setSunset(0, 9999);
        Check.same("the most", ledger.daysUntilLapsed(0), 10000);
        ledger.setSunset(0, 1);
        Check.same("the day before the sunset", ledger.daysUntilLapsed(0), 2);
        ledger.advance(1);
        Check.same("on the sunset", ledger.daysUntilLapsed(0), 1);
        ledger.advance(1);
        Check.same("the day after", ledger.daysUntilLapsed(0), 0);
        ledger.advance(1);
        Check.same("two days after", ledger.daysUntilLapsed(0), 0);
        ledger.advance(400);
        Check.same("long after", ledger.daysUntilLapsed(0), 0);
    }

    // Promise 22: "Throws NoSuchElementException if there is no such clause, or it has no sunset"
    static void daysLeftOfNone() {
        for (int clause : NO_CLAUSE) {
            Check.leavesAsIs("clause " + clause, NO_ELEMENT, Ledgers::storied, x -> x.daysUntilLapsed(clause));
        }
        Check.leavesAsIs("no sunset", NO_ELEMENT, Ledgers::storied, x -> x.daysUntilLapsed(3));
    }
}
