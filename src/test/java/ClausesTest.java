import java.util.NoSuchElementException;

/** Promises 12 to 22. */
final class ClausesTest {
    private static final Class<NoSuchElementException> NO_ELEMENT = NoSuchElementException.class;

    public static void main(String[] args) {
        promises12And13();
        promises14And15();
        promises16To18();
        promise19();
        promises20To22();
        Check.end();
    }

    private static void promises12And13() {
        ClauseLedger ledger = new ClauseLedger();
        Check.same("12 first day", ledger.day(), 0);
        ledger.advance(400);
        ledger.advance(1);
        Check.same("12 later day", ledger.day(), 401);
        Check.same("13 none", ledger.clauseCount(), 0);
        Check.same("13 three", Ledgers.three().clauseCount(), 3);
        Check.same("13 lapsed clauses exist", Ledgers.lapsed().clauseCount(), 3);
        Check.same("13 full", Ledgers.full().clauseCount(), 16);
    }

    private static void promises14And15() {
        ClauseLedger full = Ledgers.full();
        for (int position = 0; position < 16; position++) {
            Check.same("14 at " + position, full.clauseAt(position), 15 - position);
            Check.same("15 section " + (position + 1), full.clauseOfSection(position + 1), 15 - position);
        }
        full.repeal(15);
        full.addClause(99, 'a');
        Check.same("14 first after a repeal", full.clauseAt(0), 14);
        Check.same("14 last", full.clauseAt(15), 16);
        Check.refused("14 position 16", NO_ELEMENT, () -> full.clauseAt(16));
        Check.refused("14 position -1", NO_ELEMENT, () -> full.clauseAt(-1));
        Check.refused("14 position 3 of 3", NO_ELEMENT, () -> Ledgers.three().clauseAt(3));
        Check.refused("14 empty", NO_ELEMENT, () -> new ClauseLedger().clauseAt(0));
        Check.refused("15 repealed", NO_ELEMENT, () -> full.clauseOfSection(1));
        Check.refused("15 section 0", NO_ELEMENT, () -> new ClauseLedger().clauseOfSection(0));
        Check.refused("15 section far off", NO_ELEMENT, () -> full.clauseOfSection(Integer.MAX_VALUE));
        Check.same("15 a lapsed clause", Ledgers.lapsed().clauseOfSection(20), 1);
    }

    private static void promises16To18() {
        ClauseLedger ledger = Ledgers.lapsed();
        ledger.addClause(5, 'a');
        Check.same("16 section", ledger.section(1), 20);
        Check.same("16 section of the new one", ledger.section(3), 5);
        Check.same("17 enacted", ledger.enactedOn(1), 0);
        Check.same("17 enacted later", ledger.enactedOn(3), 3);
        Check.same("18 sunset", ledger.sunset(1), 2);
        ledger.setSunset(3, 3);
        Check.same("18 sunset today", ledger.sunset(3), 3);
        Check.refused("18 no sunset", NO_ELEMENT, () -> ledger.sunset(0));
        ledger.repeal(1);
        for (int id : new int[] {-1, 1, 4, Integer.MIN_VALUE}) {
            Check.refused("16 no clause " + id, NO_ELEMENT, () -> ledger.section(id));
            Check.refused("17 no clause " + id, NO_ELEMENT, () -> ledger.enactedOn(id));
            Check.refused("18 no clause " + id, NO_ELEMENT, () -> ledger.sunset(id));
        }
        ledger.addClause(20, 'b');
        Check.refused("18 a new clause has no sunset", NO_ELEMENT, () -> ledger.sunset(4));
    }

    private static void promise19() {
        ClauseLedger ledger = new ClauseLedger();
        ledger.advance(10);
        ledger.addClause(1, 'a');
        ledger.addClause(2, 'b');
        ledger.setSunset(1, 12);
        Check.same("19 before", ledger.isInForce(0, 9), false);
        Check.same("19 enacted", ledger.isInForce(0, 10), true);
        Check.same("19 far off", ledger.isInForce(0, Integer.MAX_VALUE), true);
        Check.same("19 far back", ledger.isInForce(0, Integer.MIN_VALUE), false);
        Check.same("19 with a sunset, before", ledger.isInForce(1, 9), false);
        Check.same("19 on the sunset", ledger.isInForce(1, 12), true);
        Check.same("19 after the sunset", ledger.isInForce(1, 13), false);
        Check.refused("19 no clause", NO_ELEMENT, () -> ledger.isInForce(2, 10));

        Check.same("21 before", ledger.inForceOn(9), 0);
        Check.same("21 on the sunset", ledger.inForceOn(12), 2);
        Check.same("21 after it", ledger.inForceOn(13), 1);
        ledger.repeal(0);
        Check.same("21 clauses that exist now", ledger.inForceOn(12), 1);
        Check.same("21 none", new ClauseLedger().inForceOn(0), 0);
    }

    private static void promises20To22() {
        ClauseLedger ledger = Ledgers.three();
        ledger.setSunset(0, 0);
        ledger.setSunset(1, 5);
        Check.same("20 on the sunset", ledger.hasLapsed(0), false);
        Check.same("22 on the sunset", ledger.daysUntilLapsed(0), 1);
        Check.same("22 five days before", ledger.daysUntilLapsed(1), 6);
        ledger.advance(1);
        Check.same("20 after the sunset", ledger.hasLapsed(0), true);
        Check.same("20 before the sunset", ledger.hasLapsed(1), false);
        Check.same("20 no sunset", ledger.hasLapsed(2), false);
        Check.same("22 four days before", ledger.daysUntilLapsed(1), 5);
        Check.same("22 lapsed", ledger.daysUntilLapsed(0), 0);
        ledger.advance(9);
        Check.same("22 lapsed long ago", ledger.daysUntilLapsed(1), 0);
        Check.refused("22 no sunset", NO_ELEMENT, () -> ledger.daysUntilLapsed(2));
        Check.refused("20 no clause", NO_ELEMENT, () -> ledger.hasLapsed(3));
        Check.refused("22 no clause", NO_ELEMENT, () -> ledger.daysUntilLapsed(-1));
    }
}
