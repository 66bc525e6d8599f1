import java.util.NoSuchElementException;

/** Promises 23 to 31. */
final class VersionsTest {
    private static final Class<NoSuchElementException> NO_ELEMENT = NoSuchElementException.class;
    private static final Class<IndexOutOfBoundsException> INDEX = IndexOutOfBoundsException.class;

    public static void main(String[] args) {
        promises23To25();
        promises26And27();
        promises28And29();
        differencesOfLongTexts();
        promises30And31();
        Check.end();
    }

    private static void promises23To25() {
        ClauseLedger ledger = Ledgers.withText("gfedcbagfedc");
        Check.same("23 twelve", ledger.length(0), 12);
        Check.same("24 first", ledger.noteAt(0, 0), 'g');
        Check.same("24 last", ledger.noteAt(0, 11), 'c');
        Check.refused("24 position 12", INDEX, () -> ledger.noteAt(0, 12));
        Check.refused("24 position -1", INDEX, () -> ledger.noteAt(0, -1));
        Check.refused("24 position far off", INDEX, () -> ledger.noteAt(0, Integer.MAX_VALUE));
        Check.same("25 one", ledger.versionCount(0), 1);
        Check.same("25 eight", Ledgers.manyVersions().versionCount(0), 8);
        Check.same("23 one", Ledgers.three().length(2), 1);
        Check.refused("23 no clause", NO_ELEMENT, () -> ledger.length(1));
        Check.refused("24 no clause", NO_ELEMENT, () -> ledger.noteAt(1, -1));
        Check.refused("25 no clause", NO_ELEMENT, () -> ledger.versionCount(-1));
    }

    /** Clause 0: "ab" from day 2 on, "cab" from 5, "cb" from 9 after two versions on that day. */
    private static ClauseLedger amended() {
        ClauseLedger ledger = new ClauseLedger();
        ledger.advance(2);
        ledger.addClause(7, 'a');
        ledger.insertNote(0, 1, 'b');
        ledger.advance(3);
        ledger.insertNote(0, 0, 'c');
        ledger.advance(4);
        ledger.deleteNote(0, 0);
        ledger.replaceNote(0, 0, 'c');
        return ledger;
    }

    private static void promises26And27() {
        ClauseLedger ledger = amended();
        Check.same("27 on the first day", Picture.textOn(ledger, 0, 2), "ab");
        Check.same("27 the day before an amendment", Picture.textOn(ledger, 0, 4), "ab");
        Check.same("27 on an amendment's day", Picture.textOn(ledger, 0, 5), "cab");
        Check.same("27 the latest of a day", Picture.textOn(ledger, 0, 9), "cb");
        Check.same("26 in the future", ledger.lengthOn(0, Integer.MAX_VALUE), 2);
        Check.same("26 length", ledger.lengthOn(0, 8), 3);
        Check.refused("26 before", NO_ELEMENT, () -> ledger.lengthOn(0, 1));
        Check.refused("26 far back", NO_ELEMENT, () -> ledger.lengthOn(0, Integer.MIN_VALUE));
        Check.refused("26 no clause", NO_ELEMENT, () -> ledger.lengthOn(1, 5));
        Check.refused("27 before", NO_ELEMENT, () -> ledger.noteOn(0, 1, -1));
        Check.refused("27 no clause", NO_ELEMENT, () -> ledger.noteOn(1, 5, 0));
        Check.refused("27 position -1", INDEX, () -> ledger.noteOn(0, 5, -1));
        Check.refused("27 position 3", INDEX, () -> ledger.noteOn(0, 5, 3));
        Check.refused("27 position 2, shorter text", INDEX, () -> ledger.noteOn(0, 9, 2));
    }

    private static void promises28And29() {
        ClauseLedger ledger = amended();
        int[][] daysAndDue = {{2, 5, 1}, {5, 2, 1}, {5, 9, 1}, {2, 9, 2}, {9, 2, 2}, {4, 2, 0},
                {5, 8, 0}, {9, Integer.MAX_VALUE, 0}};
        for (int[] row : daysAndDue) {
            String what = " days " + row[0] + " and " + row[1];
            Check.same("28" + what, ledger.difference(0, row[0], row[1]), row[2]);
            Check.same("29" + what, ledger.differenceByEnds(0, row[0], row[1]), row[2]);
        }
        Check.refused("28 first before", NO_ELEMENT, () -> ledger.difference(0, 1, 5));
        Check.refused("28 second before", NO_ELEMENT, () -> ledger.difference(0, 5, 1));
        Check.refused("28 no clause", NO_ELEMENT, () -> ledger.difference(1, 5, 5));
        Check.refused("29 first before", NO_ELEMENT, () -> ledger.differenceByEnds(0, -1, 5));
        Check.refused("29 second before", NO_ELEMENT, () -> ledger.differenceByEnds(0, 5, 0));
        Check.refused("29 no clause", NO_ELEMENT, () -> ledger.differenceByEnds(-1, 5, 5));
    }

    /** Deletes the first five of twelve notes and appends two: five deletions and two insertions are least. */
    private static void differencesOfLongTexts() {
        ClauseLedger ledger = Ledgers.withText("aaaaabcdefgb");
        ledger.advance(1);
        for (int count = 0; count < 5; count++) {
            ledger.deleteNote(0, 0);
        }
        ledger.insertNote(0, 7, 'g');
        ledger.insertNote(0, 8, 'g');
        Check.same("28 long texts", ledger.difference(0, 0, 1), 7);
        Check.same("29 long texts", ledger.differenceByEnds(0, 0, 1), 7);

        ClauseLedger twelve = Ledgers.withText("abcdefgabcde");
        twelve.advance(1);
        twelve.replaceNote(0, 11, 'a');
        twelve.replaceNote(0, 0, 'g');
        Check.same("28 twelve notes each", twelve.difference(0, 0, 1), 4);
        Check.same("29 twelve notes each", twelve.differenceByEnds(0, 0, 1), 4);
        Check.same("28 twelve notes, the same", twelve.difference(0, 1, 1), 0);
        Check.same("29 twelve notes, the same", twelve.differenceByEnds(0, 1, 1), 0);

        ClauseLedger moved = Ledgers.withText("abcd");
        moved.advance(1);
        moved.replaceNote(0, 0, 'b');
        moved.replaceNote(0, 1, 'a');
        moved.replaceNote(0, 3, 'g');
        Check.same("28 abcd and bacg", moved.difference(0, 0, 1), 4);
        Check.same("29 abcd and bacg", moved.differenceByEnds(0, 0, 1), 4);
    }

    private static void promises30And31() {
        ClauseLedger full = Ledgers.full();
        pairs("all the same", full, 120);
        full.replaceNote(0, 0, 'a');
        full.replaceNote(5, 0, 'a');
        pairs("two and fourteen", full, 92);
        full.insertNote(5, 0, 'a');
        pairs("the length counts", full, 91);
        full.repeal(15);
        pairs("repealed ones do not count", full, 78);
        ClauseLedger ledger = Ledgers.lapsed();
        pairs("none", ledger, 0);
        ledger.replaceNote(0, 0, 'b');
        pairs("a lapsed one counts", ledger, 1);
        ledger.replaceNote(0, 0, 'a');
        pairs("only present texts count", ledger, 0);
        pairs("empty", new ClauseLedger(), 0);
        manyTexts();
    }

    /** Notes a to g in turn, then each text made longer, so that up to 16 texts are told apart at once. */
    private static void manyTexts() {
        ClauseLedger ledger = new ClauseLedger();
        for (int id = 0; id < 16; id++) {
            ledger.addClause(id + 1, (char) ('a' + id % 7));
        }
        pairs("seven texts", ledger, 11);
        for (int id = 0; id < 16; id++) {
            ledger.insertNote(id, 1, (char) ('a' + id / 7));
            pairs("longer up to " + id, ledger, new int[] {9, 7, 6, 5, 4, 3, 2, 1, 0}[Math.min(id, 8)]);
        }
        ledger.replaceNote(15, 0, 'a');
        ledger.replaceNote(15, 1, 'a');
        pairs("one pair among sixteen", ledger, 1);
    }

    private static void pairs(String what, ClauseLedger ledger, int due) {
        Check.same("30 " + what, ledger.duplicatePairs(), due);
        Check.same("31 " + what, ledger.duplicatePairsByComparing(), due);
    }
}
