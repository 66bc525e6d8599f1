/** Ledgers to start from. */
final class Ledgers {
    private Ledgers() {
    }

    /** Clauses 0, 1, 2 with the sections 10, 20, 30 and the texts a, b, c. */
    static ClauseLedger three() {
        ClauseLedger ledger = new ClauseLedger();
        ledger.addClause(10, 'a');
        ledger.addClause(20, 'b');
        ledger.addClause(30, 'c');
        return ledger;
    }

    /** As three, but clause 1 has lapsed: its sunset is day 2, and the day is 3. */
    static ClauseLedger lapsed() {
        ClauseLedger ledger = three();
        ledger.setSunset(1, 2);
        ledger.advance(3);
        return ledger;
    }

    /** Clauses 0 to 15 with the sections 16 down to 1. */
    static ClauseLedger full() {
        ClauseLedger ledger = new ClauseLedger();
        for (int id = 0; id < 16; id++) {
            ledger.addClause(16 - id, 'd');
        }
        return ledger;
    }

    /** One clause, 0, with this text, made on day 0 and with one version. */
    static ClauseLedger withText(String text) {
        ClauseLedger ledger = new ClauseLedger();
        ledger.addClause(5, text.charAt(0));
        for (int position = 1; position < text.length(); position++) {
            if (ledger.versionCount(0) == 8) {
                ledger.consolidate();
            }
            ledger.insertNote(0, position, text.charAt(position));
        }
        ledger.consolidate();
        return ledger;
    }

    /** As three, but clause 0 has 8 versions, all with one note. */
    static ClauseLedger manyVersions() {
        ClauseLedger ledger = three();
        for (int version = 2; version <= 8; version++) {
            ledger.replaceNote(0, 0, 'g');
        }
        return ledger;
    }

    /** Clause 0 cites 1, 2, 3 and 4; 5 cites nothing. */
    static ClauseLedger fourCites() {
        ClauseLedger ledger = new ClauseLedger();
        for (int id = 0; id < 6; id++) {
            ledger.addClause(50 + id, 'e');
        }
        for (int cited = 1; cited <= 4; cited++) {
            ledger.cite(0, cited);
        }
        return ledger;
    }

    static void typeAll(ClauseLedger ledger, String script) {
        for (int index = 0; index < script.length(); index++) {
            ledger.type(script.charAt(index));
        }
    }
}
