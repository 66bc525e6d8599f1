/** What can be seen of a ledger without changing it; the output text and the script buffer stay out. */
final class Picture {
    private Picture() {
    }

    static String of(ClauseLedger ledger) {
        StringBuilder picture = new StringBuilder();
        picture.append("day ").append(ledger.day());
        picture.append(" totals ").append(ledger.addedTotal()).append(' ').append(ledger.amendmentTotal());
        picture.append(' ').append(ledger.repealedTotal()).append(' ').append(ledger.consolidatedTotal());
        picture.append(" editions ").append(ledger.editionCount());
        picture.append(" error ").append(Check.answerOf(ledger::errorPosition));
        picture.append(" failed ").append(Check.answerOf(ledger::failedCommand));
        for (int position = 0; position < ledger.clauseCount(); position++) {
            picture.append(" | ").append(clause(ledger, ledger.clauseAt(position)));
        }
        return picture.toString();
    }

    static String clause(ClauseLedger ledger, int id) {
        StringBuilder picture = new StringBuilder();
        picture.append(id).append(" section ").append(ledger.section(id));
        picture.append(" enacted ").append(ledger.enactedOn(id));
        picture.append(" sunset ").append(Check.answerOf(() -> ledger.sunset(id)));
        picture.append(" versions ").append(ledger.versionCount(id));
        for (int day = ledger.enactedOn(id); day < ledger.day(); day++) {
            int asked = day;
            picture.append(' ').append(Check.answerOf(() -> textOn(ledger, id, asked)));
        }
        picture.append(' ').append(text(ledger, id));
        picture.append(" cites ").append(cites(ledger, id));
        return picture.toString();
    }

    static String text(ClauseLedger ledger, int id) {
        StringBuilder text = new StringBuilder();
        for (int position = 0; position < ledger.length(id); position++) {
            text.append(ledger.noteAt(id, position));
        }
        return text.toString();
    }

    static String textOn(ClauseLedger ledger, int id, int day) {
        StringBuilder text = new StringBuilder();
        for (int position = 0; position < ledger.lengthOn(id, day); position++) {
            text.append(ledger.noteOn(id, day, position));
        }
        return text.toString();
    }

    static String output(ClauseLedger ledger) {
        StringBuilder output = new StringBuilder();
        Object next = Check.answerOf(() -> ledger.outputAt(0));
        while (next instanceof Character && output.length() < 100) {
            output.append(next);
            next = Check.answerOf(() -> ledger.outputAt(output.length()));
        }
        return output.toString();
    }

    static String cites(ClauseLedger ledger, int id) {
        StringBuilder cites = new StringBuilder();
        for (int position = 0; position < ledger.citeCount(id); position++) {
            cites.append('>').append(ledger.citeAt(id, position));
        }
        return cites.toString();
    }
}
