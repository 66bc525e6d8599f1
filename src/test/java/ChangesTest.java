import java.util.NoSuchElementException;

/** Promises 1 to 11. */
final class ChangesTest {
    private static final Class<NoSuchElementException> NO_ELEMENT = NoSuchElementException.class;
    private static final Class<IndexOutOfBoundsException> INDEX = IndexOutOfBoundsException.class;
    private static final Class<IllegalArgumentException> ARGUMENT = IllegalArgumentException.class;
    private static final Class<IllegalStateException> STATE = IllegalStateException.class;
    private static final Class<UnsupportedOperationException> UNSUPPORTED = UnsupportedOperationException.class;

    public static void main(String[] args) {
        promise1();
        promise2();
        promise3();
        promise4();
        promise5();
        promise6();
        promise7();
        promise8();
        promise9();
        promise10();
        promise10Cites();
        promise11();
        Check.end();
    }

    private static void promise1() {
        ClauseLedger ledger = new ClauseLedger();
        Check.same("1 picture", Picture.of(ledger), "day 0 totals 0 0 0 0 editions 0 error "
                + NO_ELEMENT + " failed " + NO_ELEMENT);
        Check.same("1 clauses", ledger.clauseCount(), 0);
        Check.refused("1 undo", NO_ELEMENT, ledger::undo);
        Check.refused("1 restore", STATE, ledger::restore);
        Check.refused("1 output", INDEX, () -> ledger.outputAt(0));
        Check.same("1 buffer", ledger.type('a'), 1);
    }

    private static void promise2() {
        ClauseLedger ledger = new ClauseLedger();
        ledger.advance(4);
        Check.same("2 first id", ledger.addClause(99, 'g'), 0);
        Check.same("2 second id", ledger.addClause(1, 'a'), 1);
        Check.same("2 new clause", Picture.clause(ledger, 0),
                "0 section 99 enacted 4 sunset " + NO_ELEMENT + " versions 1 g cites ");
        Check.same("2 text on its day", ledger.lengthOn(0, 4), 1);
        ledger.repeal(1);
        Check.same("2 ids are not used again", ledger.addClause(1, 'a'), 2);

        Check.leavesAsIs("2 section 0", ARGUMENT, Ledgers::three, x -> x.addClause(0, 'a'));
        Check.leavesAsIs("2 section 100", ARGUMENT, Ledgers::three, x -> x.addClause(100, 'a'));
        Check.leavesAsIs("2 section far below", ARGUMENT, Ledgers::three,
                x -> x.addClause(Integer.MIN_VALUE, 'a'));
        Check.leavesAsIs("2 note h", ARGUMENT, Ledgers::three, x -> x.addClause(40, 'h'));
        Check.leavesAsIs("2 note `", ARGUMENT, Ledgers::three, x -> x.addClause(40, '`'));
        Check.leavesAsIs("2 note A", ARGUMENT, Ledgers::three, x -> x.addClause(40, 'A'));
        Check.leavesAsIs("2 section taken", UNSUPPORTED, Ledgers::three, x -> x.addClause(20, 'a'));
        Check.leavesAsIs("2 section of a lapsed clause", UNSUPPORTED, Ledgers::lapsed,
                x -> x.addClause(20, 'a'));
        Check.refused("2 full", STATE, () -> Ledgers.full().addClause(40, 'a'));
        Check.refused("2 full and section taken", STATE, () -> Ledgers.full().addClause(1, 'a'));
        Check.refused("2 full and no such note", ARGUMENT, () -> Ledgers.full().addClause(40, 'h'));
        Check.refused("2 section taken and no such note", ARGUMENT, () -> Ledgers.three().addClause(20, 'h'));

        ClauseLedger full = Ledgers.full();
        full.repeal(3);
        Check.same("2 room after a repeal", full.addClause(13, 'a'), 16);
    }

    private static void promise3() {
        ClauseLedger ledger = Ledgers.three();
        Check.same("3 at the end", ledger.insertNote(0, 1, 'b'), 2);
        Check.same("3 at the start", ledger.insertNote(0, 0, 'c'), 3);
        Check.same("3 between", ledger.insertNote(0, 1, 'g'), 4);
        Check.same("3 text", Picture.text(ledger, 0), "cgab");
        Check.same("3 others", Picture.text(ledger, 1), "b");
        ledger.setSunset(1, 0);
        Check.same("3 on the sunset", ledger.insertNote(1, 0, 'a'), 2);

        ClauseLedger eleven = Ledgers.withText("abcdefgabcd");
        Check.same("3 twelfth note", eleven.insertNote(0, 11, 'g'), 2);
        Check.same("3 twelve notes", Picture.text(eleven, 0), "abcdefgabcdg");
        ClauseLedger front = Ledgers.withText("gggggggggga");
        front.insertNote(0, 0, 'b');
        Check.same("3 twelve notes from the front", Picture.text(front, 0), "bgggggggggga");

        Check.leavesAsIs("3 no clause", NO_ELEMENT, Ledgers::three, x -> x.insertNote(3, -1, 'h'));
        Check.leavesAsIs("3 clause -1", NO_ELEMENT, Ledgers::three, x -> x.insertNote(-1, 0, 'a'));
        Check.leavesAsIs("3 position -1", INDEX, Ledgers::three, x -> x.insertNote(0, -1, 'h'));
        Check.leavesAsIs("3 position 2", INDEX, Ledgers::three, x -> x.insertNote(0, 2, 'a'));
        Check.leavesAsIs("3 position 13", INDEX, () -> Ledgers.withText("abcdefgabcde"),
                x -> x.insertNote(0, 13, 'a'));
        Check.leavesAsIs("3 note h", ARGUMENT, Ledgers::lapsed, x -> x.insertNote(1, 0, 'h'));
        Check.leavesAsIs("3 lapsed", STATE, Ledgers::lapsed, x -> x.insertNote(1, 0, 'a'));
        Check.leavesAsIs("3 eight versions", STATE, Ledgers::manyVersions, x -> x.insertNote(0, 0, 'a'));
        Check.leavesAsIs("3 twelve notes", UNSUPPORTED, () -> Ledgers.withText("abcdefgabcde"),
                x -> x.insertNote(0, 12, 'a'));
        Check.refused("3 twelve notes and lapsed", STATE, () -> {
            ClauseLedger both = Ledgers.withText("abcdefgabcde");
            both.setSunset(0, 0);
            both.advance(1);
            return both.insertNote(0, 0, 'a');
        });
    }

    private static void promise4() {
        ClauseLedger ledger = Ledgers.withText("abc");
        Check.same("4 first", ledger.replaceNote(0, 0, 'g'), 2);
        Check.same("4 last", ledger.replaceNote(0, 2, 'a'), 3);
        Check.same("4 text", Picture.text(ledger, 0), "gba");
        Check.same("4 same note", ledger.replaceNote(0, 1, 'b'), 4);
        Check.same("4 same text", Picture.text(ledger, 0), "gba");
        ClauseLedger twelve = Ledgers.withText("abcdefgabcde");
        Check.same("4 twelfth note", twelve.replaceNote(0, 11, 'g'), 2);
        Check.same("4 twelve notes", Picture.text(twelve, 0), "abcdefgabcdg");

        Check.leavesAsIs("4 no clause", NO_ELEMENT, Ledgers::three, x -> x.replaceNote(3, -1, 'h'));
        Check.leavesAsIs("4 position -1", INDEX, Ledgers::three, x -> x.replaceNote(0, -1, 'h'));
        Check.leavesAsIs("4 position 1", INDEX, Ledgers::three, x -> x.replaceNote(0, 1, 'a'));
        Check.leavesAsIs("4 position far off", INDEX, Ledgers::three,
                x -> x.replaceNote(0, Integer.MAX_VALUE, 'a'));
        Check.leavesAsIs("4 note h", ARGUMENT, Ledgers::lapsed, x -> x.replaceNote(1, 0, 'h'));
        Check.leavesAsIs("4 lapsed", STATE, Ledgers::lapsed, x -> x.replaceNote(1, 0, 'a'));
        Check.leavesAsIs("4 eight versions", STATE, Ledgers::manyVersions, x -> x.replaceNote(0, 0, 'a'));
    }

    private static void promise5() {
        ClauseLedger ledger = Ledgers.withText("abcdefgabcde");
        Check.same("5 last", ledger.deleteNote(0, 11), 2);
        Check.same("5 first", ledger.deleteNote(0, 0), 3);
        Check.same("5 between", ledger.deleteNote(0, 3), 4);
        Check.same("5 text", Picture.text(ledger, 0), "bcdfgabcd");

        Check.leavesAsIs("5 no clause", NO_ELEMENT, Ledgers::three, x -> x.deleteNote(3, -1));
        Check.leavesAsIs("5 position -1", INDEX, Ledgers::three, x -> x.deleteNote(0, -1));
        Check.leavesAsIs("5 position 1", INDEX, Ledgers::lapsed, x -> x.deleteNote(1, 1));
        Check.leavesAsIs("5 lapsed, one note", STATE, Ledgers::lapsed, x -> x.deleteNote(1, 0));
        Check.leavesAsIs("5 eight versions, one note", STATE, Ledgers::manyVersions, x -> x.deleteNote(0, 0));
        Check.leavesAsIs("5 one note", UNSUPPORTED, Ledgers::three, x -> x.deleteNote(0, 0));
    }

    private static void promise6() {
        ClauseLedger ledger = Ledgers.three();
        ledger.advance(7);
        Check.same("6 present day", ledger.setSunset(0, 7), 0);
        Check.same("6 later", ledger.setSunset(0, 20), 13);
        Check.same("6 sunset", ledger.sunset(0), 20);
        Check.same("6 last day", ledger.setSunset(0, 10006), 9999);
        Check.same("6 earlier again", ledger.setSunset(0, 8), 1);
        ledger.advance(1);
        Check.same("6 on the sunset", ledger.setSunset(0, 9), 1);

        Check.leavesAsIs("6 no clause", NO_ELEMENT, Ledgers::lapsed, x -> x.setSunset(3, -1));
        Check.leavesAsIs("6 day before", ARGUMENT, Ledgers::lapsed, x -> x.setSunset(0, 2));
        Check.leavesAsIs("6 10000 days", ARGUMENT, Ledgers::lapsed, x -> x.setSunset(0, 10003));
        Check.leavesAsIs("6 last int", ARGUMENT, Ledgers::lapsed, x -> x.setSunset(0, Integer.MAX_VALUE));
        Check.leavesAsIs("6 first int", ARGUMENT, Ledgers::lapsed, x -> x.setSunset(0, Integer.MIN_VALUE));
        Check.leavesAsIs("6 day before, lapsed", ARGUMENT, Ledgers::lapsed, x -> x.setSunset(1, 2));
        Check.leavesAsIs("6 lapsed", STATE, Ledgers::lapsed, x -> x.setSunset(1, 3));
    }

    private static void promise7() {
        ClauseLedger ledger = Ledgers.lapsed();
        Check.same("7 first", ledger.cite(0, 2), 1);
        Check.same("7 a lapsed one", ledger.cite(0, 1), 2);
        Check.same("7 by a lapsed one", ledger.cite(1, 0), 1);
        Check.same("7 order", Picture.cites(ledger, 0), ">2>1");
        ClauseLedger four = Ledgers.fourCites();
        Check.same("7 four", Picture.cites(four, 0), ">1>2>3>4");

        Check.leavesAsIs("7 no citing clause", NO_ELEMENT, Ledgers::three, x -> x.cite(3, 0));
        Check.leavesAsIs("7 no cited clause", NO_ELEMENT, Ledgers::three, x -> x.cite(0, 3));
        Check.leavesAsIs("7 neither", NO_ELEMENT, Ledgers::three, x -> x.cite(3, 3));
        Check.leavesAsIs("7 itself", ARGUMENT, Ledgers::fourCites, x -> x.cite(0, 0));
        Check.leavesAsIs("7 again", STATE, Ledgers::fourCites, x -> x.cite(0, 2));
        Check.leavesAsIs("7 fifth", STATE, Ledgers::fourCites, x -> x.cite(0, 5));
        Check.refused("7 twice", STATE, () -> {
            ledger.repeal(1);
            ledger.undo();
            return ledger.cite(0, 1);
        });
    }

    private static void promise8() {
        ClauseLedger ledger = Ledgers.fourCites();
        Check.same("8 between", ledger.uncite(0, 2), 3);
        Check.same("8 order", Picture.cites(ledger, 0), ">1>3>4");
        ledger.repeal(3);
        Check.same("8 cited clause is gone", ledger.uncite(0, 3), 2);
        Check.same("8 last", ledger.uncite(0, 4), 1);
        Check.same("8 first", ledger.uncite(0, 1), 0);
        Check.same("8 none is left", Picture.cites(ledger, 0), "");

        Check.leavesAsIs("8 no citing clause", NO_ELEMENT, Ledgers::fourCites, x -> x.uncite(6, 1));
        Check.leavesAsIs("8 not cited", NO_ELEMENT, Ledgers::fourCites, x -> x.uncite(0, 5));
        Check.leavesAsIs("8 the other way", NO_ELEMENT, Ledgers::fourCites, x -> x.uncite(1, 0));
        Check.leavesAsIs("8 -1", NO_ELEMENT, Ledgers::fourCites, x -> x.uncite(5, -1));
        Check.refused("8 citing clause is gone", NO_ELEMENT, () -> {
            ClauseLedger gone = Ledgers.fourCites();
            gone.repeal(0);
            return gone.uncite(0, 1);
        });
    }

    private static void promise9() {
        ClauseLedger ledger = Ledgers.lapsed();
        ledger.cite(2, 0);
        Check.same("9 first", ledger.repeal(0), 2);
        Check.same("9 it is gone", ledger.clauseAt(0), 1);
        Check.same("9 cites remain", Picture.cites(ledger, 2), ">0");
        Check.same("9 a lapsed one", ledger.repeal(1), 1);
        Check.same("9 the last one", ledger.repeal(2), 0);

        Check.refused("9 again", NO_ELEMENT, () -> ledger.repeal(2));
        Check.leavesAsIs("9 no clause", NO_ELEMENT, Ledgers::three, x -> x.repeal(3));
        Check.leavesAsIs("9 -1", NO_ELEMENT, Ledgers::three, x -> x.repeal(-1));
    }

    private static void promise10() {
        ClauseLedger empty = new ClauseLedger();
        Check.same("10 empty", empty.consolidate(), 1);
        Check.same("10 empty again", empty.consolidate(), 2);

        ClauseLedger ledger = new ClauseLedger();
        ledger.addClause(90, 'a');
        ledger.addClause(2, 'b');
        ledger.addClause(50, 'c');
        ledger.addClause(3, 'd');
        ledger.advance(2);
        ledger.insertNote(0, 1, 'b');
        ledger.setSunset(1, 4);
        ledger.setSunset(2, 5);
        ledger.advance(3);
        ledger.insertNote(2, 0, 'g');
        Check.same("10 edition", ledger.consolidate(), 1);
        Check.same("10 lapsed is gone, sunset today stays", ledger.clauseCount(), 3);
        Check.same("10 section 1", ledger.clauseOfSection(1), 3);
        Check.same("10 section 2", ledger.clauseOfSection(2), 2);
        Check.same("10 section 3", ledger.clauseOfSection(3), 0);
        Check.same("10 last version's day", Check.answerOf(() -> ledger.lengthOn(0, 1)), NO_ELEMENT);
        Check.same("10 last version", Picture.textOn(ledger, 0, 2), "ab");
        Check.same("10 no versions but the last", ledger.versionCount(0), 1);
        Check.same("10 enacted stays", ledger.enactedOn(0), 0);
        Check.same("10 one version stays", Picture.textOn(ledger, 3, 0), "d");
        Check.same("10 today's version", Check.answerOf(() -> ledger.lengthOn(2, 4)), NO_ELEMENT);
        Check.same("10 today's text", Picture.textOn(ledger, 2, 5), "gc");
        Check.same("10 sunset stays", ledger.sunset(2), 5);
        Check.same("10 next edition", ledger.consolidate(), 2);
    }

    private static void promise10Cites() {
        ClauseLedger ledger = Ledgers.fourCites();
        ledger.cite(5, 1);
        ledger.cite(5, 3);
        ledger.cite(4, 2);
        ledger.cite(1, 0);
        ledger.setSunset(1, 0);
        ledger.advance(1);
        ledger.repeal(3);
        ledger.consolidate();
        Check.same("10 cites kept in order", Picture.cites(ledger, 0), ">2>4");
        Check.same("10 all cites gone", Picture.cites(ledger, 5), "");
        Check.same("10 cite kept", Picture.cites(ledger, 4), ">2");
        Check.same("10 room for cites", ledger.cite(0, 5), 3);
    }

    private static void promise11() {
        ClauseLedger ledger = Ledgers.three();
        ledger.addClause(40, 'd');
        ledger.setSunset(0, 0);
        ledger.setSunset(1, 1);
        ledger.setSunset(2, 2);
        Check.same("11 one lapses", ledger.advance(1), 1);
        Check.same("11 day", ledger.day(), 1);
        Check.same("11 the next lapses", ledger.advance(1), 1);
        ledger.repeal(2);
        Check.same("11 a repealed one does not lapse", ledger.advance(400), 0);
        Check.same("11 days", ledger.day(), 402);

        ClauseLedger together = Ledgers.three();
        together.setSunset(0, 3);
        together.setSunset(1, 4);
        together.setSunset(2, 5);
        Check.same("11 two lapse", together.advance(5), 2);

        Check.leavesAsIs("11 no days", ARGUMENT, Ledgers::three, x -> x.advance(0));
        Check.leavesAsIs("11 days back", ARGUMENT, Ledgers::three, x -> x.advance(-1));
        Check.leavesAsIs("11 401 days", ARGUMENT, Ledgers::three, x -> x.advance(401));
    }
}
