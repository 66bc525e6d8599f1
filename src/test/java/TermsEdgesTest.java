import java.util.NoSuchElementException;
import java.util.function.Function;

/** The edges that the document's sections "What it is" and "Terms" name, sentence by sentence. */
final class TermsEdgesTest {
    private static final Class<NoSuchElementException> NO_ELEMENT = NoSuchElementException.class;
    private static final Class<IndexOutOfBoundsException> INDEX = IndexOutOfBoundsException.class;
    private static final Class<IllegalArgumentException> ARGUMENT = IllegalArgumentException.class;
    private static final Class<IllegalStateException> STATE = IllegalStateException.class;
    private static final Class<UnsupportedOperationException> UNSUPPORTED = UnsupportedOperationException.class;

    public static void main(String[] args) {
        Check.runAll(TermsEdgesTest.class);
        Check.end();
    }

    // What it is: "An object is used for at most 512 calls after it has been made; what later calls answer is free."
    static void fiveHundredAndTwelveCalls() {
        ClauseLedger ledger = new ClauseLedger();
        for (int pair = 0; pair < 255; pair++) {
            Check.same("call " + (2 * pair + 1), ledger.addClause(1, 'a'), pair);
            Check.same("call " + (2 * pair + 2), ledger.repeal(pair), 0);
        }
        Check.same("call 511", ledger.addClause(1, 'a'), 255);
        Check.same("call 512", ledger.undo(), 7);

        ClauseLedger late = new ClauseLedger();
        for (int call = 1; call <= 511; call++) {
            late.advance(400);
        }
        Check.same("call 512, the latest day", late.day(), 511 * 400);
    }

    // Terms: "Days are counted from 0."
    static void firstDay() {
        ClauseLedger ledger = new ClauseLedger();
        Check.same("first day", ledger.day(), 0);
        ledger.advance(1);
        Check.same("second day", ledger.day(), 1);
    }

    // Terms: "Only the method advance lets days pass."
    static void onlyAdvance() {
        ClauseLedger ledger = Ledgers.storied();
        ledger.addClause(99, 'a');
        ledger.insertNote(0, 0, 'a');
        ledger.replaceNote(0, 0, 'b');
        ledger.deleteNote(0, 0);
        ledger.setSunset(0, 5);
        ledger.cite(0, 4);
        ledger.uncite(0, 4);
        ledger.repeal(3);
        ledger.consolidate();
        Ledgers.run(ledger, ";edit");
        ledger.renderClause(0);
        ledger.isConsistent();
        ledger.save();
        ledger.restore();
        Check.same("no day passes", ledger.day(), 2);
        ledger.advance(400);
        Check.same("400 days pass", ledger.day(), 402);
    }

    // Terms: "At most 16 clauses exist."
    static void sixteenClauses() {
        ClauseLedger ledger = new ClauseLedger();
        for (int id = 0; id < 16; id++) {
            Check.same("clause " + id, ledger.addClause(id + 1, 'a'), id);
        }
        Check.same("sixteen", ledger.clauseCount(), 16);
        Check.refused("seventeenth", STATE, () -> ledger.addClause(17, 'a'));
        ledger.repeal(0);
        Check.same("room after a repeal", ledger.addClause(17, 'a'), 16);
        ledger.setSunset(1, 0);
        ledger.advance(1);
        Check.refused("a lapsed clause exists", STATE, () -> ledger.addClause(18, 'a'));
        ledger.consolidate();
        Check.same("room after a consolidation", ledger.addClause(18, 'a'), 17);
        Check.refused("full again", STATE, () -> ledger.addClause(19, 'a'));
    }

    // Terms: "The first clause has the id 0, and each further clause has the id of the clause added before it
    // plus 1."
    static void ids() {
        ClauseLedger ledger = new ClauseLedger();
        Check.same("first", ledger.addClause(1, 'a'), 0);
        Check.refused("no note", ARGUMENT, () -> ledger.addClause(2, 'h'));
        Check.refused("section taken", UNSUPPORTED, () -> ledger.addClause(1, 'a'));
        Check.same("second, after refused calls", ledger.addClause(2, 'a'), 1);
        ledger.repeal(1);
        ledger.repeal(0);
        Check.same("third, in an empty book", ledger.addClause(1, 'a'), 2);
        ledger.setSunset(2, 0);
        ledger.advance(1);
        ledger.consolidate();
        Check.same("fourth, after a consolidation", ledger.addClause(1, 'a'), 3);
        Check.same("there is no third", Check.answerOf(() -> ledger.section(2)), NO_ELEMENT);
    }

    // Terms: "A clause has a section number from 1 to 99, which no other existing clause has, and a text of 1 to 12
    // notes, which are letters from a to g."
    static void sectionsAndNotes() {
        ClauseLedger ledger = new ClauseLedger();
        Check.refused("section 0", ARGUMENT, () -> ledger.addClause(0, 'a'));
        Check.refused("section 100", ARGUMENT, () -> ledger.addClause(100, 'a'));
        Check.same("section 1, note a", ledger.addClause(1, 'a'), 0);
        Check.same("section 99, note g", ledger.addClause(99, 'g'), 1);
        Check.refused("before a", ARGUMENT, () -> ledger.addClause(50, '`'));
        Check.refused("behind g", ARGUMENT, () -> ledger.addClause(50, 'h'));
        Check.refused("section of an existing clause", UNSUPPORTED, () -> ledger.addClause(99, 'a'));
        ledger.repeal(1);
        Check.same("section of a repealed clause", ledger.addClause(99, 'a'), 2);
        Check.same("one note", ledger.length(2), 1);
        Check.refused("no note is left", UNSUPPORTED, () -> ledger.deleteNote(2, 0));
        ClauseLedger twelve = Ledgers.withText("abcdefgabcde");
        Check.same("twelve notes", twelve.length(0), 12);
        Check.refused("a thirteenth", UNSUPPORTED, () -> twelve.insertNote(0, 12, 'a'));
    }

    // Terms: "It is enacted on the day on which it is added."
    static void enacted() {
        ClauseLedger ledger = new ClauseLedger();
        ledger.addClause(1, 'a');
        ledger.advance(400);
        ledger.addClause(2, 'a');
        ledger.consolidate();
        ledger.replaceNote(0, 0, 'b');
        Check.same("on the first day", ledger.enactedOn(0), 0);
        Check.same("later", ledger.enactedOn(1), 400);
    }

    // Terms: "It can have a sunset, which is a day."
    static void withAndWithoutSunset() {
        ClauseLedger ledger = new ClauseLedger();
        ledger.addClause(1, 'a');
        Check.refused("none", NO_ELEMENT, () -> ledger.sunset(0));
        ledger.setSunset(0, 0);
        Check.same("the first day", ledger.sunset(0), 0);
        ledger.setSunset(0, 9999);
        Check.same("the latest", ledger.sunset(0), 9999);
    }

    // Terms: "A clause is in force on a day if this day is not before the day on which the clause was enacted and not
    // after its sunset, if it has one."
    static void inForce() {
        ClauseLedger ledger = new ClauseLedger();
        ledger.advance(5);
        ledger.addClause(1, 'a');
        Check.same("the day before", ledger.isInForce(0, 4), false);
        Check.same("enacted", ledger.isInForce(0, 5), true);
        Check.same("without a sunset", ledger.isInForce(0, Integer.MAX_VALUE), true);
        ledger.setSunset(0, 7);
        Check.same("the day before, with a sunset", ledger.isInForce(0, 4), false);
        Check.same("enacted, with a sunset", ledger.isInForce(0, 5), true);
        Check.same("on the sunset", ledger.isInForce(0, 7), true);
        Check.same("the day after", ledger.isInForce(0, 8), false);
        ledger.setSunset(0, 5);
        Check.same("one day only", ledger.isInForce(0, 5), true);
        Check.same("the day after the only one", ledger.isInForce(0, 6), false);
    }

    // Terms: "A clause has lapsed if its sunset is before the present day."
    static void lapsed() {
        ClauseLedger ledger = new ClauseLedger();
        ledger.addClause(1, 'a');
        ledger.addClause(2, 'a');
        ledger.setSunset(0, 1);
        Check.same("before the sunset", ledger.hasLapsed(0), false);
        ledger.advance(1);
        Check.same("on the sunset", ledger.hasLapsed(0), false);
        ledger.advance(1);
        Check.same("the day after", ledger.hasLapsed(0), true);
        Check.same("without a sunset", ledger.hasLapsed(1), false);
    }

    // Terms: "When a clause is added, its text is its first version, with the present day."
    static void firstVersion() {
        ClauseLedger ledger = new ClauseLedger();
        ledger.advance(3);
        ledger.addClause(1, 'f');
        Check.same("one version", ledger.versionCount(0), 1);
        Check.same("its text", ledger.noteOn(0, 3, 0), 'f');
        Check.refused("the day before", NO_ELEMENT, () -> ledger.noteOn(0, 2, 0));
    }

    // Terms: "Each amendment of a clause adds a version with the present day and the amended text, also if the text
    // stays the same."
    static void amendmentsAddVersions() {
        ClauseLedger ledger = new ClauseLedger();
        ledger.addClause(1, 'a');
        ledger.advance(2);
        Check.same("the same text", ledger.replaceNote(0, 0, 'a'), 2);
        Check.same("the same text is an amendment", ledger.amendmentTotal(), 1);
        Check.same("inserted", ledger.insertNote(0, 0, 'b'), 3);
        Check.same("deleted", ledger.deleteNote(0, 0), 4);
        ledger.consolidate();
        Check.same("the last version has the day of its amendment", ledger.lengthOn(0, 2), 1);
        Check.refused("and no text on the day before", NO_ELEMENT, () -> ledger.lengthOn(0, 1));
    }

    // Terms: "A clause has at most 8 versions."
    static void eightVersions() {
        ClauseLedger ledger = new ClauseLedger();
        ledger.addClause(1, 'a');
        for (int version = 2; version <= 8; version++) {
            Check.same("version " + version, ledger.replaceNote(0, 0, (char) ('a' + version % 7)), version);
        }
        Check.refused("ninth by insertNote", STATE, () -> ledger.insertNote(0, 0, 'a'));
        Check.refused("ninth by replaceNote", STATE, () -> ledger.replaceNote(0, 0, 'a'));
        Check.refused("ninth by deleteNote", STATE, () -> ledger.deleteNote(0, 0));
        Check.same("eight", ledger.versionCount(0), 8);
        ledger.consolidate();
        for (int version = 2; version <= 8; version++) {
            Check.same("consolidated, version " + version, ledger.insertNote(0, 0, 'a'), version);
        }
        Check.refused("ninth again", STATE, () -> ledger.deleteNote(0, 0));
    }

    // Terms: "The text of a clause on a day is the text of the last version whose day is not after this day; a clause
    // has no text on days before its first version."
    static void textOnADay() {
        ClauseLedger ledger = new ClauseLedger();
        ledger.advance(1);
        ledger.addClause(1, 'a');
        ledger.advance(2);
        ledger.insertNote(0, 0, 'b');
        ledger.insertNote(0, 0, 'c');
        ledger.advance(2);
        ledger.deleteNote(0, 2);
        Check.refused("before the first version", NO_ELEMENT, () -> ledger.lengthOn(0, 0));
        Check.refused("long before", NO_ELEMENT, () -> ledger.lengthOn(0, Integer.MIN_VALUE));
        Check.same("on the first version's day", Picture.textOn(ledger, 0, 1), "a");
        Check.same("the day before the next", Picture.textOn(ledger, 0, 2), "a");
        Check.same("the last of two on a day", Picture.textOn(ledger, 0, 3), "cba");
        Check.same("the day before the last", Picture.textOn(ledger, 0, 4), "cba");
        Check.same("on the last version's day", Picture.textOn(ledger, 0, 5), "cb");
        Check.same("after the present day", Picture.textOn(ledger, 0, Integer.MAX_VALUE), "cb");
    }

    // Terms: "The present text is the text of the last version."
    static void presentText() {
        ClauseLedger ledger = Ledgers.storiedWithManyVersions();
        Check.same("eighth version", Picture.text(ledger, 0), "fab");
        ledger.consolidate();
        Check.same("the only version", Picture.text(ledger, 0), "fab");
        Check.same("first version", Picture.text(Ledgers.three(), 2), "c");
        Check.same("of a lapsed clause", Picture.text(Ledgers.storied(), 1), "b");
    }

    // Terms: "A clause can cite up to 4 other clauses, in the order in which the cites were added."
    static void fourCites() {
        ClauseLedger ledger = Ledgers.full();
        Check.refused("itself is no other", ARGUMENT, () -> ledger.cite(5, 5));
        Check.same("first", ledger.cite(5, 9), 1);
        Check.same("second", ledger.cite(5, 2), 2);
        Check.same("third", ledger.cite(5, 15), 3);
        Check.same("fourth", ledger.cite(5, 0), 4);
        Check.refused("fifth", STATE, () -> ledger.cite(5, 1));
        Check.same("order", Picture.cites(ledger, 5), ">9>2>15>0");
        ledger.uncite(5, 2);
        Check.same("fourth again", ledger.cite(5, 2), 4);
        Check.same("order anew", Picture.cites(ledger, 5), ">9>15>0>2");
    }

    // Terms: "When a clause ceases to exist, cites of it remain."
    static void citesRemain() {
        ClauseLedger ledger = Ledgers.fourCites();
        for (int cited = 1; cited <= 4; cited++) {
            ledger.repeal(cited);
        }
        Check.same("all four", Picture.cites(ledger, 0), ">1>2>3>4");
        Check.refused("there is no room", STATE, () -> ledger.cite(0, 5));
    }

    // Terms: "A cite is broken if the cited clause does not exist or is not in force on the present day."
    static void brokenCites() {
        ClauseLedger ledger = Ledgers.fourCites();
        Check.same("none", ledger.brokenCites(), 0);
        ledger.repeal(2);
        Check.same("the cited clause does not exist", ledger.brokenCites(), 1);
        ledger.setSunset(3, 1);
        ledger.advance(1);
        Check.same("on the sunset", ledger.brokenCites(), 1);
        ledger.advance(1);
        Check.same("after the sunset", ledger.brokenCites(), 2);
        ledger.repeal(3);
        Check.same("lapsed and repealed is one", ledger.brokenCites(), 2);
    }

    // Terms: "A clause cites another one indirectly if there is a sequence of one or more cites that leads from the
    // one to the other, by way of clauses that exist; the two clauses can be the same."
    static void indirectCites() {
        ClauseLedger ledger = Ledgers.three();
        indirectly(ledger, "no cite", 0, 1, false);
        indirectly(ledger, "no cite to itself", 0, 0, false);
        ledger.cite(0, 1);
        indirectly(ledger, "one cite", 0, 1, true);
        indirectly(ledger, "one cite, back", 1, 0, false);
        ledger.cite(1, 2);
        indirectly(ledger, "two cites", 0, 2, true);
        ledger.cite(2, 0);
        indirectly(ledger, "three cites, to itself", 0, 0, true);
        ledger.repeal(1);
        indirectly(ledger, "by way of none", 0, 2, false);
        indirectly(ledger, "from behind it", 2, 0, true);
        indirectly(ledger, "to itself no more", 0, 0, false);
    }

    private static void indirectly(ClauseLedger ledger, String what, int clause, int cited, boolean due) {
        Check.same(what + ", by search", ledger.citesIndirectly(clause, cited), due);
        Check.same(what + ", by closure", ledger.citesByClosure(clause, cited), due);
    }

    // Terms: "First, all clauses that have lapsed cease to exist."
    static void consolidationEndsLapsedClauses() {
        ClauseLedger ledger = Ledgers.three();
        ledger.setSunset(0, 0);
        ledger.setSunset(1, 1);
        ledger.advance(1);
        ledger.consolidate();
        Check.refused("the day after its sunset", NO_ELEMENT, () -> ledger.section(0));
        Check.same("on its sunset", ledger.sunset(1), 1);
        Check.same("without a sunset", ledger.length(2), 1);
        ledger.setSunset(2, 1);
        ledger.advance(1);
        ledger.consolidate();
        Check.same("all of them", ledger.clauseCount(), 0);
        Check.same("from an empty book", ledger.consolidate(), 3);
    }

    // Terms: "Second, all cites of clauses that do not exist are removed."
    static void consolidationRemovesCites() {
        ClauseLedger ledger = Ledgers.fourCites();
        ledger.cite(5, 0);
        ledger.setSunset(1, 0);
        ledger.repeal(3);
        ledger.advance(1);
        ledger.consolidate();
        Check.same("of a repealed clause and of one that ends by this", Picture.cites(ledger, 0), ">2>4");
        Check.same("none of its own", Picture.cites(ledger, 5), ">0");
        ledger.repeal(2);
        ledger.repeal(4);
        ledger.consolidate();
        Check.same("all of them", ledger.citeCount(0), 0);
        Check.refused("no first one", INDEX, () -> ledger.citeAt(0, 0));
    }

    // Terms: "Third, the remaining clauses get the section numbers 1, 2, 3 and so on in the order of their section
    // numbers."
    static void consolidationNumbersSections() {
        ClauseLedger ledger = new ClauseLedger();
        for (int id = 0; id < 16; id++) {
            ledger.addClause(99 - id, 'a');
        }
        ledger.consolidate();
        for (int id = 0; id < 16; id++) {
            Check.same("section of " + id, ledger.section(id), 16 - id);
        }
        ledger.repeal(15);
        ledger.repeal(3);
        ledger.consolidate();
        Check.same("the first is gone", ledger.section(14), 1);
        Check.same("before a gap", ledger.section(4), 11);
        Check.same("behind a gap", ledger.section(2), 12);
        Check.same("the last", ledger.section(0), 14);
        Check.same("sections behind the last are free", ledger.addClause(15, 'a'), 16);
    }

    // Terms: "Fourth, for each clause, only the last version is kept; its day does not change."
    static void consolidationKeepsLastVersions() {
        ClauseLedger ledger = Ledgers.storiedWithManyVersions();
        ledger.advance(3);
        ledger.consolidate();
        Check.same("one of eight", ledger.versionCount(0), 1);
        Check.refused("the day before the last version", NO_ELEMENT, () -> ledger.lengthOn(0, 1));
        Check.same("the last version's day", Picture.textOn(ledger, 0, 2), "fab");
        Check.same("one of one", ledger.versionCount(3), 1);
        Check.same("one version keeps its day", Picture.textOn(ledger, 3, 0), "d");
        Check.same("enacted before the day of the first version", ledger.enactedOn(0), 0);
    }

    // Terms: "A consolidation makes a new edition; editions are numbered from 1, and the days of the latest 6
    // editions are remembered."
    static void editions() {
        ClauseLedger ledger = new ClauseLedger();
        Check.same("none", ledger.editionCount(), 0);
        for (int edition = 1; edition <= 13; edition++) {
            Check.same("number", ledger.consolidate(), edition);
            ledger.advance(10);
            Check.same("latest of " + edition, ledger.editionDay(edition), 10 * edition - 10);
            int sixth = edition - 5;
            Check.same("sixth last of " + edition, Check.answerOf(() -> ledger.editionDay(sixth)),
                    sixth < 1 ? NO_ELEMENT : (Object) (10 * sixth - 10));
            Check.refused("seventh last of " + edition, NO_ELEMENT, () -> ledger.editionDay(sixth - 1));
        }
    }

    // Terms: "The difference of two texts is the smallest number of insertions and deletions of single notes that
    // change the one into the other."
    static void differences() {
        difference("the same text", "abcdefgabcde", ledger -> 0, 0);
        difference("one insertion", "a", ledger -> ledger.insertNote(0, 0, 'b'), 1);
        difference("one deletion", "abcdefgabcde", ledger -> ledger.deleteNote(0, 6), 1);
        difference("a replaced note is two", "a", ledger -> ledger.replaceNote(0, 0, 'g'), 2);
        difference("the longest way back", "ab", ledger -> {
            ledger.replaceNote(0, 0, 'b');
            return ledger.replaceNote(0, 1, 'a');
        }, 2);
        // Seven amendments are all that two days can lie apart, so 14 is the most.
        difference("seven replaced notes", "aaaaaaaaaaaa", ledger -> {
            for (int position = 0; position < 7; position++) {
                ledger.replaceNote(0, position, 'b');
            }
            return 0;
        }, 14);
    }

    private static void difference(String what, String text, Function<ClauseLedger, ?> amend, int due) {
        ClauseLedger ledger = Ledgers.withText(text);
        ledger.advance(1);
        amend.apply(ledger);
        Check.same(what, ledger.difference(0, 0, 1), due);
        Check.same(what + ", back", ledger.difference(0, 1, 0), due);
        Check.same(what + ", by ends", ledger.differenceByEnds(0, 0, 1), due);
        Check.same(what + ", by ends, back", ledger.differenceByEnds(0, 1, 0), due);
    }

    // Terms: "A method that throws an exception changes nothing unless its description says otherwise."
    static void refusedCallsChangeNothing() {
        unchanged("addClause", UNSUPPORTED, ledger -> ledger.addClause(1, 'a'));
        unchanged("insertNote", STATE, ledger -> ledger.insertNote(1, 0, 'a'));
        unchanged("replaceNote", STATE, ledger -> ledger.replaceNote(1, 0, 'a'));
        unchanged("deleteNote", UNSUPPORTED, ledger -> ledger.deleteNote(4, 0));
        unchanged("setSunset", STATE, ledger -> ledger.setSunset(1, 2));
        unchanged("cite", STATE, ledger -> ledger.cite(0, 1));
        unchanged("uncite", NO_ELEMENT, ledger -> ledger.uncite(0, 4));
        unchanged("repeal", NO_ELEMENT, ledger -> ledger.repeal(2));
        unchanged("advance", ARGUMENT, ledger -> ledger.advance(401));
        unchanged("clauseAt", NO_ELEMENT, ledger -> ledger.clauseAt(4));
        unchanged("clauseOfSection", NO_ELEMENT, ledger -> ledger.clauseOfSection(3));
        unchanged("section", NO_ELEMENT, ledger -> ledger.section(2));
        unchanged("enactedOn", NO_ELEMENT, ledger -> ledger.enactedOn(2));
        unchanged("sunset", NO_ELEMENT, ledger -> ledger.sunset(3));
        unchanged("isInForce", NO_ELEMENT, ledger -> ledger.isInForce(2, 0));
        unchanged("hasLapsed", NO_ELEMENT, ledger -> ledger.hasLapsed(2));
        unchanged("daysUntilLapsed", NO_ELEMENT, ledger -> ledger.daysUntilLapsed(3));
        unchanged("length", NO_ELEMENT, ledger -> ledger.length(2));
        unchanged("noteAt", INDEX, ledger -> ledger.noteAt(0, 3));
        unchanged("versionCount", NO_ELEMENT, ledger -> ledger.versionCount(2));
        unchanged("lengthOn", NO_ELEMENT, ledger -> ledger.lengthOn(4, 1));
        unchanged("noteOn", INDEX, ledger -> ledger.noteOn(0, 0, 2));
        unchanged("difference", NO_ELEMENT, ledger -> ledger.difference(4, 1, 2));
        unchanged("differenceByEnds", NO_ELEMENT, ledger -> ledger.differenceByEnds(4, 2, 1));
        unchanged("citeCount", NO_ELEMENT, ledger -> ledger.citeCount(2));
        unchanged("citeAt", INDEX, ledger -> ledger.citeAt(0, 3));
        unchanged("citesIndirectly", NO_ELEMENT, ledger -> ledger.citesIndirectly(0, 2));
        unchanged("citesByClosure", NO_ELEMENT, ledger -> ledger.citesByClosure(2, 0));
        unchanged("clauseByCites", NO_ELEMENT, ledger -> ledger.clauseByCites(4));
        unchanged("editionDay", NO_ELEMENT, ledger -> ledger.editionDay(2));
        unchanged("renderClause", NO_ELEMENT, ledger -> ledger.renderClause(2));
        unchanged("outputAt", INDEX, ledger -> ledger.outputAt(6));
        unchanged("type", ARGUMENT, ledger -> ledger.type((char) 127));
    }

    private static void unchanged(String method, Class<? extends RuntimeException> due,
            Function<ClauseLedger, ?> call) {
        Check.leavesAsIs(method, due, Ledgers::storied, call);
    }

    // Terms: "A method that throws an exception changes nothing unless its description says otherwise."
    static void refusedCallsOnOtherLedgersChangeNothing() {
        Check.leavesAsIs("meanLength", ArithmeticException.class, TermsEdgesTest::emptied, ClauseLedger::meanLength);
        Check.leavesAsIs("inForceShare", ArithmeticException.class, TermsEdgesTest::emptied,
                ClauseLedger::inForceShare);
        Check.leavesAsIs("errorPosition", NO_ELEMENT, Ledgers::three, ClauseLedger::errorPosition);
        Check.leavesAsIs("failedCommand", NO_ELEMENT, Ledgers::three, ClauseLedger::failedCommand);
        Check.leavesAsIs("undo", NO_ELEMENT, TermsEdgesTest::restored, ClauseLedger::undo);
        Check.leavesAsIs("restore", STATE, Ledgers::lapsed, ClauseLedger::restore);
        Check.leavesAsIs("type", STATE, () -> {
            ClauseLedger typed = Ledgers.storied();
            Ledgers.typeAll(typed, ";wait 1".repeat(8));
            return typed;
        }, ledger -> ledger.type(';'));
    }

    private static ClauseLedger emptied() {
        ClauseLedger ledger = Ledgers.storied();
        for (int id : new int[] {0, 1, 3, 4}) {
            ledger.repeal(id);
        }
        return ledger;
    }

    private static ClauseLedger restored() {
        ClauseLedger ledger = Ledgers.storied();
        ledger.restore();
        return ledger;
    }

    // Terms: "If several exceptions apply, the one that is listed first is thrown."
    static void firstOfSeveral() {
        Check.refused("all of addClause", ARGUMENT, () -> Ledgers.storiedAndFull().addClause(100, 'h'));
        Check.refused("all of insertNote", NO_ELEMENT, () -> Ledgers.storied().insertNote(2, -1, 'h'));
        Check.refused("all of replaceNote", NO_ELEMENT, () -> Ledgers.storied().replaceNote(2, -1, 'h'));
        Check.refused("all of deleteNote", NO_ELEMENT, () -> Ledgers.storied().deleteNote(2, -1));
        Check.refused("all of setSunset", NO_ELEMENT, () -> Ledgers.storied().setSunset(2, -1));
        Check.refused("all of cite", NO_ELEMENT, () -> Ledgers.storied().cite(2, 2));
        Check.refused("all of noteAt", NO_ELEMENT, () -> Ledgers.storied().noteAt(2, -1));
        Check.refused("all of noteOn", NO_ELEMENT, () -> Ledgers.storied().noteOn(2, -1, -1));
        Check.refused("all of citeAt", NO_ELEMENT, () -> Ledgers.storied().citeAt(2, -1));
        ClauseLedger typed = new ClauseLedger();
        Ledgers.typeAll(typed, "x".repeat(60));
        Check.refused("all of type", ARGUMENT, () -> typed.type('\n'));
        Check.same("all of runScript", Ledgers.run(new ClauseLedger(), "wait 0;x"), ARGUMENT);
    }
}
