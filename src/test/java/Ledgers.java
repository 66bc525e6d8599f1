/** Ledgers to start from. */
final class Ledgers {
    private Ledgers() {
    }

    /** Clauses 0, 1, 2 with the sections 10, 20, 30 and the texts a, b, c. */
    static ClauseLedger three() {
        ClauseLedger ledger = new ClauseLedger();
        ledger.addClause(10, 'a');
        ledger.addClause(20, 'b');
        ledger.addClause(30, 'c');
        return ledger;
    }

    /** As three, but clause 1 has lapsed: its sunset is day 2, and the day is 3. */
    static ClauseLedger lapsed() {
        ClauseLedger ledger = three();
        ledger.setSunset(1, 2);
        ledger.advance(3);
        return ledger;
    }

    /** Clauses 0 to 15 with the sections 16 down to 1. */
    static ClauseLedger full() {
        ClauseLedger ledger = new ClauseLedger();
        for (int id = 0; id < 16; id++) {
            ledger.addClause(16 - id, 'd');
        }
        return ledger;
    }

    /** One clause, 0, with this text, made on day 0 and with one version. */
    static ClauseLedger withText(String text) {
        ClauseLedger ledger = new ClauseLedger();
        ledger.addClause(5, text.charAt(0));
        for (int position = 1; position < text.length(); position++) {
            if (ledger.versionCount(0) == 8) {
                ledger.consolidate();
            }
            ledger.insertNote(0, position, text.charAt(position));
        }
        ledger.consolidate();
        return ledger;
    }

    /** As three, but clause 0 has 8 versions, all with one note. */
    static ClauseLedger manyVersions() {
        ClauseLedger ledger = three();
        for (int version = 2; version <= 8; version++) {
            ledger.replaceNote(0, 0, 'g');
        }
        return ledger;
    }

    /** Clause 0 cites 1, 2, 3 and 4; 5 cites nothing. */
    static ClauseLedger fourCites() {
        ClauseLedger ledger = new ClauseLedger();
        for (int id = 0; id < 6; id++) {
            ledger.addClause(50 + id, 'e');
        }
        for (int cited = 1; cited <= 4; cited++) {
            ledger.cite(0, cited);
        }
        return ledger;
    }

    /**
     * A ledger on day 2 in which nothing is as in a new one. Clause 0 ("cab", section 1) cites 1, the repealed 2
     * and 3, has two versions and the sunset 9; 1 ("b", section 2) has lapsed and cites 2; 3 ("d", section 4) has
     * nothing; 4 ("e", section 50) was added today and cites 0. Edition 1 is of day 0. Four changes can be undone;
     * the snapshot is of day 1. "edit" is typed, and clause 1 is the output text.
     */
    static ClauseLedger storied() {
        ClauseLedger ledger = new ClauseLedger();
        for (int id = 0; id < 4; id++) {
            ledger.addClause(10 + 10 * id, (char) ('a' + id));
        }
        ledger.cite(0, 1);
        ledger.cite(0, 2);
        ledger.cite(0, 3);
        ledger.cite(1, 2);
        ledger.insertNote(0, 1, 'b');
        ledger.consolidate();
        ledger.advance(1);
        ledger.insertNote(0, 0, 'c');
        ledger.setSunset(1, 1);
        ledger.repeal(2);
        ledger.save();
        ledger.restore();
        ledger.advance(1);
        ledger.addClause(50, 'e');
        ledger.cite(4, 0);
        ledger.setSunset(0, 9);
        run(ledger, "edit;x");
        run(ledger, "edit;wait 0");
        ledger.renderClause(1);
        typeAll(ledger, "edit");
        return ledger;
    }

    /** As storied, with 12 clauses more, 5 to 16 with the sections 60 to 71, so that there are 16. */
    static ClauseLedger storiedAndFull() {
        ClauseLedger ledger = storied();
        for (int section = 60; section <= 71; section++) {
            ledger.addClause(section, 'f');
        }
        return ledger;
    }

    /** As storied, but clause 0 has 8 versions, the later ones "aab", "bab" and so on up to "fab". */
    static ClauseLedger storiedWithManyVersions() {
        ClauseLedger ledger = storied();
        for (char note = 'a'; note <= 'f'; note++) {
            ledger.replaceNote(0, 0, note);
        }
        return ledger;
    }

    /** What runScript answers after this script has been typed. */
    static Object run(ClauseLedger ledger, String script) {
        typeAll(ledger, script);
        return Check.answerOf(ledger::runScript);
    }

    static void typeAll(ClauseLedger ledger, String script) {
        for (int index = 0; index < script.length(); index++) {
            ledger.type(script.charAt(index));
        }
    }
}
