/** The looks at a ledger that, taken together, show all that a later call could answer otherwise. */
enum Look {
    STATE {
        @Override
        String at(ClauseLedger ledger) {
            return Picture.of(ledger);
        }
    },
    EDITIONS {
        @Override
        String at(ClauseLedger ledger) {
            StringBuilder days = new StringBuilder();
            for (int edition = 1; edition <= ledger.editionCount(); edition++) {
                int asked = edition;
                days.append(Check.answerOf(() -> ledger.editionDay(asked))).append(' ');
            }
            return days.toString();
        }
    },
    OUTPUT {
        @Override
        String at(ClauseLedger ledger) {
            return Picture.output(ledger);
        }
    },
    BUFFER_LENGTH {
        @Override
        String at(ClauseLedger ledger) {
            return Check.answerOf(() -> ledger.type('~')) + "";
        }
    },
    BUFFER {
        @Override
        String at(ClauseLedger ledger) {
            return Check.answerOf(ledger::runScript) + " " + Picture.of(ledger);
        }
    },
    ONE_STEP_BACK {
        @Override
        String at(ClauseLedger ledger) {
            return Check.answerOf(ledger::undo) + " " + Picture.of(ledger);
        }
    },
    ALL_STEPS_BACK {
        @Override
        String at(ClauseLedger ledger) {
            StringBuilder answers = new StringBuilder();
            for (int step = 0; step < 9; step++) {
                answers.append(Check.answerOf(ledger::undo)).append(' ');
            }
            return answers + Picture.of(ledger);
        }
    },
    SNAPSHOT {
        @Override
        String at(ClauseLedger ledger) {
            return Check.answerOf(ledger::restore) + " " + Picture.of(ledger);
        }
    },
    NEXT_ID {
        @Override
        String at(ClauseLedger ledger) {
            if (ledger.clauseCount() == 16) {
                ledger.repeal(ledger.clauseAt(15));
            }
            return ledger.addClause(98, 'g') + "";
        }
    };

    abstract String at(ClauseLedger ledger);
}
