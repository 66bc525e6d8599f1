import java.util.NoSuchElementException;

public final class ClauseLedger {
    private static final int MAX_CLAUSES = 16;
    private static final int MAX_SECTION = 99;
    private static final int MAX_NOTES = 12;
    private static final int MAX_VERSIONS = 8;
    private static final int MAX_CITES = 4;
    private static final int MAX_SUNSET_AHEAD = 9999;
    private static final int MAX_ADVANCE = 400;
    private static final int MAX_EDITIONS_KNOWN = 6;
    private static final int MAX_UNDO = 8;
    private static final int MAX_SCRIPT = 60;
    private static final int MAX_DIGITS = 3;
    private static final char FIRST_TYPED = 32;
    private static final char LAST_TYPED = 126;

    private static final int NONE = -1;
    // A text has at least one note, and each note's code is at least 1, so 0 is free to mean "no text".
    private static final long NO_TEXT = 0;

    // A change answers a number from 0 up; below 0 stands what forbids it. Scripts need the refusal
    // without an exception, so the book hands out these numbers and only the face throws.
    private static final int NO_ELEMENT = -1;
    private static final int BAD_INDEX = -2;
    private static final int BAD_ARGUMENT = -3;
    private static final int BAD_STATE = -4;
    private static final int UNSUPPORTED = -5;

    private final Book book = new Book();
    private final Book snapshot = new Book();
    private boolean hasSnapshot = false;
    private final History history = new History();
    private final Script script = new Script();
    private int latestErrorPosition = NONE;
    private int latestFailedCommand = NONE;
    private final StringBuilder output = new StringBuilder();
    private final Differences differences = new Differences();
    private final TextCounts textCounts = new TextCounts();
    private final CiteGraph citeGraph = new CiteGraph();

    public ClauseLedger() {
    }

    // ---- changes ----

    public int addClause(int section, char note)
            throws IllegalArgumentException, IllegalStateException, UnsupportedOperationException {
        history.open(book);
        return settle(book.tryAdd(section, note));
    }

    public int insertNote(int clause, int position, char note)
            throws NoSuchElementException, IndexOutOfBoundsException, IllegalArgumentException,
            IllegalStateException, UnsupportedOperationException {
        history.open(book);
        return settle(book.tryInsert(clause, position, note));
    }

    public int replaceNote(int clause, int position, char note)
            throws NoSuchElementException, IndexOutOfBoundsException, IllegalArgumentException,
            IllegalStateException {
        history.open(book);
        return settle(book.tryReplace(clause, position, note));
    }

    public int deleteNote(int clause, int position)
            throws NoSuchElementException, IndexOutOfBoundsException, IllegalStateException,
            UnsupportedOperationException {
        history.open(book);
        return settle(book.tryDelete(clause, position));
    }

    public int setSunset(int clause, int day)
            throws NoSuchElementException, IllegalArgumentException, IllegalStateException {
        history.open(book);
        return settle(book.trySunset(clause, day));
    }

    public int cite(int clause, int cited)
            throws NoSuchElementException, IllegalArgumentException, IllegalStateException {
        history.open(book);
        return settle(book.tryCite(clause, cited));
    }

    public int uncite(int clause, int cited) throws NoSuchElementException {
        history.open(book);
        return settle(book.tryUncite(clause, cited));
    }

    public int repeal(int clause) throws NoSuchElementException {
        history.open(book);
        return settle(book.tryRepeal(clause));
    }

    public int consolidate() {
        history.open(book);
        return settle(book.makeEdition());
    }

    public int advance(int days) throws IllegalArgumentException {
        history.open(book);
        return settle(book.tryAdvance(days));
    }

    private int settle(int outcome) {
        refuse(outcome);
        history.keep();
        return outcome;
    }

    private static void refuse(int outcome) {
        switch (outcome) {
            case NO_ELEMENT:
                throw new NoSuchElementException();
            case BAD_INDEX:
                throw new IndexOutOfBoundsException();
            case BAD_ARGUMENT:
                throw new IllegalArgumentException();
            case BAD_STATE:
                throw new IllegalStateException();
            case UNSUPPORTED:
                throw new UnsupportedOperationException();
            default:
                break;
        }
    }

    // ---- clauses ----

    public int day() {
        return book.today;
    }

    public int clauseCount() {
        return book.countClauses();
    }

    public int clauseAt(int position) throws NoSuchElementException {
        return existing(book.clauseAtRank(position)).id;
    }

    public int clauseOfSection(int section) throws NoSuchElementException {
        return existing(book.clauseWithSection(section)).id;
    }

    public int section(int clause) throws NoSuchElementException {
        return clauseOf(clause).section;
    }

    public int enactedOn(int clause) throws NoSuchElementException {
        return clauseOf(clause).enacted;
    }

    public int sunset(int clause) throws NoSuchElementException {
        return clauseWithSunset(clause).sunset;
    }

    public boolean isInForce(int clause, int day) throws NoSuchElementException {
        return clauseOf(clause).holdsOn(day);
    }

    public boolean hasLapsed(int clause) throws NoSuchElementException {
        return clauseOf(clause).lapsedBy(book.today);
    }

    public int inForceOn(int day) {
        return book.countHoldingOn(day);
    }

    public int daysUntilLapsed(int clause) throws NoSuchElementException {
        Clause asked = clauseWithSunset(clause);
        return asked.lapsedBy(book.today) ? 0 : asked.sunset - book.today + 1;
    }

    private static Clause existing(Clause clause) {
        if (clause == null) {
            throw new NoSuchElementException();
        }
        return clause;
    }

    private Clause clauseOf(int id) {
        return existing(book.clauseWithId(id));
    }

    private Clause clauseWithSunset(int id) {
        Clause clause = clauseOf(id);
        if (!clause.hasSunset()) {
            throw new NoSuchElementException();
        }
        return clause;
    }

    // ---- texts and versions ----

    public int length(int clause) throws NoSuchElementException {
        return Text.lengthOf(clauseOf(clause).latestText());
    }

    public char noteAt(int clause, int position) throws NoSuchElementException, IndexOutOfBoundsException {
        return noteOfText(clauseOf(clause).latestText(), position);
    }

    public int versionCount(int clause) throws NoSuchElementException {
        return clauseOf(clause).countVersions();
    }

    public int lengthOn(int clause, int day) throws NoSuchElementException {
        return Text.lengthOf(textOn(clauseOf(clause), day));
    }

    public char noteOn(int clause, int day, int position)
            throws NoSuchElementException, IndexOutOfBoundsException {
        return noteOfText(textOn(clauseOf(clause), day), position);
    }

    public int difference(int clause, int first, int second) throws NoSuchElementException {
        Clause asked = clauseOf(clause);
        return differences.byBeginnings(textOn(asked, first), textOn(asked, second));
    }

    public int differenceByEnds(int clause, int first, int second) throws NoSuchElementException {
        Clause asked = clauseOf(clause);
        return differences.byEnds(textOn(asked, first), textOn(asked, second));
    }

    public int duplicatePairs() {
        textCounts.clear();
        int pairs = 0;
        for (Clause clause : book.clauses) {
            if (clause.exists) {
                pairs += textCounts.countBeforeAdding(clause.latestText());
            }
        }
        return pairs;
    }

    public int duplicatePairsByComparing() {
        int pairs = 0;
        for (Clause clause : book.clauses) {
            for (Clause other : book.clauses) {
                if (clause.exists && other.exists && clause.id < other.id
                        && clause.latestText() == other.latestText()) {
                    pairs++;
                }
            }
        }
        return pairs;
    }

    private static long textOn(Clause clause, int day) {
        long text = clause.textOnDay(day);
        if (text == NO_TEXT) {
            throw new NoSuchElementException();
        }
        return text;
    }

    private static char noteOfText(long text, int position) {
        if (position < 0 || position >= Text.lengthOf(text)) {
            throw new IndexOutOfBoundsException();
        }
        return Text.noteOf(text, position);
    }

    // ---- cites ----

    public int citeCount(int clause) throws NoSuchElementException {
        return clauseOf(clause).countCites();
    }

    public int citeAt(int clause, int position) throws NoSuchElementException, IndexOutOfBoundsException {
        int cited = clauseOf(clause).citeAtPlace(position);
        if (cited == NONE) {
            throw new IndexOutOfBoundsException();
        }
        return cited;
    }

    public int brokenCites() {
        return book.countBrokenCites();
    }

    public boolean citesIndirectly(int clause, int cited) throws NoSuchElementException {
        int from = slotOf(clause);
        int to = slotOf(cited);
        citeGraph.read(book);
        return CiteGraph.hasSlot(citeGraph.slotsFoundFrom(from), to);
    }

    public boolean citesByClosure(int clause, int cited) throws NoSuchElementException {
        int from = slotOf(clause);
        int to = slotOf(cited);
        citeGraph.read(book);
        citeGraph.close();
        return CiteGraph.hasSlot(citeGraph.slotsClosedFrom(from), to);
    }

    public int clauseByCites(int rank) throws NoSuchElementException {
        citeGraph.read(book);
        for (int slot = 0; slot < book.clauses.length; slot++) {
            Clause clause = book.clauses[slot];
            if (clause.exists && countRankedBefore(clause, citeGraph.countCiters(slot)) == rank) {
                return clause.id;
            }
        }
        throw new NoSuchElementException();
    }

    private int countRankedBefore(Clause clause, int citers) {
        int before = 0;
        for (int slot = 0; slot < book.clauses.length; slot++) {
            Clause other = book.clauses[slot];
            int otherCiters = citeGraph.countCiters(slot);
            if (other.exists && (otherCiters > citers
                    || otherCiters == citers && other.section < clause.section)) {
                before++;
            }
        }
        return before;
    }

    private int slotOf(int id) {
        int slot = book.slotWithId(id);
        if (slot == NONE) {
            throw new NoSuchElementException();
        }
        return slot;
    }

    // ---- totals and checks ----

    public int addedTotal() {
        return book.added;
    }

    public int amendmentTotal() {
        return book.amendments;
    }

    public int repealedTotal() {
        return book.repealed;
    }

    public int consolidatedTotal() {
        return book.consolidated;
    }

    public int editionCount() {
        return book.editions;
    }

    public int editionDay(int edition) throws NoSuchElementException {
        if (edition < 1 || edition > book.editions || edition <= book.editions - MAX_EDITIONS_KNOWN) {
            throw new NoSuchElementException();
        }
        return book.dayOfEdition(edition);
    }

    public double meanLength() throws ArithmeticException {
        int count = book.countClauses();
        if (count == 0) {
            throw new ArithmeticException();
        }
        return (double) book.countNotes() / (double) count;
    }

    public float inForceShare() throws ArithmeticException {
        int count = book.countClauses();
        if (count == 0) {
            throw new ArithmeticException();
        }
        return (float) book.countHoldingOn(book.today) / (float) count;
    }

    public boolean isConsistent() {
        return differencesAgree()
                && duplicatePairs() == duplicatePairsByComparing()
                && indirectCitesAgree()
                && book.countClauses() == book.added - book.repealed - book.consolidated;
    }

    private boolean differencesAgree() {
        for (Clause clause : book.clauses) {
            if (clause.exists) {
                long first = clause.textOnDay(clause.firstDay());
                long present = clause.textOnDay(book.today);
                if (differences.byBeginnings(first, present) != differences.byEnds(first, present)) {
                    return false;
                }
            }
        }
        return true;
    }

    private boolean indirectCitesAgree() {
        citeGraph.read(book);
        citeGraph.close();
        for (int slot = 0; slot < MAX_CLAUSES; slot++) {
            if (citeGraph.slotsFoundFrom(slot) != citeGraph.slotsClosedFrom(slot)) {
                return false;
            }
        }
        return true;
    }

    // ---- output and scripts ----

    public int renderClause(int clause) throws NoSuchElementException {
        Clause shown = clauseOf(clause);
        output.setLength(0);
        output.append(shown.section);
        output.append(':');
        appendNotes(shown.latestText());
        if (shown.hasSunset()) {
            output.append('~');
            output.append(shown.sunset);
        }
        if (!shown.holdsOn(book.today)) {
            output.append('!');
        }
        return output.length();
    }

    private void appendNotes(long text) {
        int length = Text.lengthOf(text);
        for (int position = 0; position < length; position++) {
            output.append(Text.noteOf(text, position));
        }
    }

    public char outputAt(int index) throws IndexOutOfBoundsException {
        if (index < 0 || index >= output.length()) {
            throw new IndexOutOfBoundsException();
        }
        return output.charAt(index);
    }

    public int type(char character) throws IllegalArgumentException, IllegalStateException {
        if (character < FIRST_TYPED || character > LAST_TYPED) {
            throw new IllegalArgumentException();
        }
        if (script.isFull()) {
            throw new IllegalStateException();
        }
        return script.append(character);
    }

    public int runScript() throws IllegalArgumentException, IllegalStateException {
        boolean wellFormed = script.read();
        script.empty();
        if (!wellFormed) {
            latestErrorPosition = script.readUpTo;
            throw new IllegalArgumentException();
        }
        history.open(book);
        int failed = script.applyTo(book);
        if (failed != NONE) {
            latestFailedCommand = failed;
            history.abandon(book);
            throw new IllegalStateException();
        }
        history.keep();
        return script.commandCount;
    }

    public int errorPosition() throws NoSuchElementException {
        if (latestErrorPosition == NONE) {
            throw new NoSuchElementException();
        }
        return latestErrorPosition;
    }

    public int failedCommand() throws NoSuchElementException {
        if (latestFailedCommand == NONE) {
            throw new NoSuchElementException();
        }
        return latestFailedCommand;
    }

    public int undo() throws NoSuchElementException {
        if (history.size == 0) {
            throw new NoSuchElementException();
        }
        history.stepBack(book);
        return history.size;
    }

    public int save() {
        snapshot.copyFrom(book);
        hasSnapshot = true;
        return book.countClauses();
    }

    public int restore() throws IllegalStateException {
        if (!hasSnapshot) {
            throw new IllegalStateException();
        }
        book.copyFrom(snapshot);
        history.clear();
        return book.countClauses();
    }

    /**
     * Texts as numbers, three bits a note with the first note lowest: no text is an object, so that
     * versions are copied and compared as single values and nothing is made while a run goes on.
     */
    private static final class Text {
        private static final int BITS = 3;
        private static final int MASK = 7;

        static boolean isNote(char note) {
            return note >= 'a' && note <= 'g';
        }

        static long ofNote(char note) {
            return note - 'a' + 1;
        }

        static int lengthOf(long text) {
            int length = 0;
            while (length < MAX_NOTES && codeAt(text, length) != 0) {
                length++;
            }
            return length;
        }

        static char noteOf(long text, int position) {
            return (char) ('a' + codeAt(text, position) - 1);
        }

        static long withInserted(long text, int position, char note) {
            long after = text >>> BITS * position << BITS * (position + 1);
            return before(text, position) | ofNote(note) << BITS * position | after;
        }

        static long withReplaced(long text, int position, char note) {
            return withInserted(withDeleted(text, position), position, note);
        }

        static long withDeleted(long text, int position) {
            long after = text >>> BITS * (position + 1) << BITS * position;
            return before(text, position) | after;
        }

        private static int codeAt(long text, int position) {
            return (int) (text >>> BITS * position) & MASK;
        }

        private static long before(long text, int position) {
            return text & (1L << BITS * position) - 1;
        }
    }

    /** A clause, or an empty place for one: places are made once and used again. */
    private static final class Clause {
        private boolean exists = false;
        private int id = NONE;
        private int section = 0;
        private int enacted = 0;
        private int sunset = NONE;
        // Filled from the front; behind the last version stands NO_TEXT, behind the last cite NONE.
        private final int[] versionDays = new int[MAX_VERSIONS];
        private final long[] versionTexts = new long[MAX_VERSIONS];
        private final int[] cites = new int[MAX_CITES];

        void copyFrom(Clause other) {
            exists = other.exists;
            id = other.id;
            section = other.section;
            enacted = other.enacted;
            sunset = other.sunset;
            System.arraycopy(other.versionDays, 0, versionDays, 0, MAX_VERSIONS);
            System.arraycopy(other.versionTexts, 0, versionTexts, 0, MAX_VERSIONS);
            System.arraycopy(other.cites, 0, cites, 0, MAX_CITES);
        }

        void begin(int newId, int newSection, int today, long text) {
            exists = true;
            id = newId;
            section = newSection;
            enacted = today;
            sunset = NONE;
            keepOnly(today, text);
            for (int place = 0; place < cites.length; place++) {
                cites[place] = NONE;
            }
        }

        boolean hasSunset() {
            return sunset != NONE;
        }

        boolean holdsOn(int day) {
            return day >= enacted && (!hasSunset() || day <= sunset);
        }

        boolean lapsedBy(int today) {
            return hasSunset() && sunset < today;
        }

        int countVersions() {
            int count = 0;
            while (count < versionTexts.length && versionTexts[count] != NO_TEXT) {
                count++;
            }
            return count;
        }

        int firstDay() {
            return versionDays[0];
        }

        long latestText() {
            int count = countVersions();
            return count < 1 ? NO_TEXT : versionTexts[count - 1];
        }

        long textOnDay(int day) {
            int count = countVersions();
            long text = NO_TEXT;
            for (int version = 0; version < count; version++) {
                if (versionDays[version] <= day) {
                    text = versionTexts[version];
                }
            }
            return text;
        }

        boolean hasRoomForVersion() {
            return countVersions() < MAX_VERSIONS;
        }

        void addVersion(int today, long text) {
            int count = countVersions();
            if (count < MAX_VERSIONS) {
                versionDays[count] = today;
                versionTexts[count] = text;
            }
        }

        void keepLastVersion() {
            int count = countVersions();
            if (count > 0) {
                keepOnly(versionDays[count - 1], versionTexts[count - 1]);
            }
        }

        private void keepOnly(int day, long text) {
            for (int version = 0; version < versionTexts.length; version++) {
                versionTexts[version] = NO_TEXT;
            }
            versionDays[0] = day;
            versionTexts[0] = text;
        }

        int countCites() {
            int count = 0;
            while (count < cites.length && cites[count] != NONE) {
                count++;
            }
            return count;
        }

        int citeAtPlace(int place) {
            return place < 0 || place >= cites.length ? NONE : cites[place];
        }

        boolean citesId(int cited) {
            return placeOfCite(cited) != NONE;
        }

        void addCite(int cited) {
            int count = countCites();
            if (count < cites.length) {
                cites[count] = cited;
            }
        }

        void removeCite(int cited) {
            int removed = placeOfCite(cited);
            if (removed == NONE) {
                return;
            }
            for (int place = removed; place + 1 < cites.length; place++) {
                cites[place] = cites[place + 1];
            }
            cites[cites.length - 1] = NONE;
        }

        private int placeOfCite(int cited) {
            int count = countCites();
            for (int place = 0; place < count; place++) {
                if (cites[place] == cited) {
                    return place;
                }
            }
            return NONE;
        }
    }

    /** All that undo and the snapshot cover. */
    private static final class Book {
        private final Clause[] clauses = new Clause[MAX_CLAUSES];
        private int nextId = 0;
        private int today = 0;
        private int added = 0;
        private int amendments = 0;
        private int repealed = 0;
        private int consolidated = 0;
        private int editions = 0;
        private final int[] editionDays = new int[MAX_EDITIONS_KNOWN];

        Book() {
            for (int slot = 0; slot < clauses.length; slot++) {
                clauses[slot] = new Clause();
            }
        }

        void copyFrom(Book other) {
            for (int slot = 0; slot < MAX_CLAUSES; slot++) {
                clauses[slot].copyFrom(other.clauses[slot]);
            }
            nextId = other.nextId;
            today = other.today;
            added = other.added;
            amendments = other.amendments;
            repealed = other.repealed;
            consolidated = other.consolidated;
            editions = other.editions;
            System.arraycopy(other.editionDays, 0, editionDays, 0, MAX_EDITIONS_KNOWN);
        }

        int tryAdd(int section, char note) {
            if (section < 1 || section > MAX_SECTION || !Text.isNote(note)) {
                return BAD_ARGUMENT;
            }
            Clause free = freeClause();
            if (free == null) {
                return BAD_STATE;
            }
            if (clauseWithSection(section) != null) {
                return UNSUPPORTED;
            }
            free.begin(nextId, section, today, Text.ofNote(note));
            nextId++;
            added++;
            return free.id;
        }

        int tryInsert(int id, int position, char note) {
            Clause clause = clauseWithId(id);
            if (clause == null) {
                return NO_ELEMENT;
            }
            long text = clause.latestText();
            int length = Text.lengthOf(text);
            if (position < 0 || position > length) {
                return BAD_INDEX;
            }
            if (!Text.isNote(note)) {
                return BAD_ARGUMENT;
            }
            if (!isAmendable(clause)) {
                return BAD_STATE;
            }
            if (length >= MAX_NOTES) {
                return UNSUPPORTED;
            }
            return amend(clause, Text.withInserted(text, position, note));
        }

        int tryReplace(int id, int position, char note) {
            Clause clause = clauseWithId(id);
            if (clause == null) {
                return NO_ELEMENT;
            }
            long text = clause.latestText();
            if (position < 0 || position >= Text.lengthOf(text)) {
                return BAD_INDEX;
            }
            if (!Text.isNote(note)) {
                return BAD_ARGUMENT;
            }
            if (!isAmendable(clause)) {
                return BAD_STATE;
            }
            return amend(clause, Text.withReplaced(text, position, note));
        }

        int tryDelete(int id, int position) {
            Clause clause = clauseWithId(id);
            if (clause == null) {
                return NO_ELEMENT;
            }
            long text = clause.latestText();
            int length = Text.lengthOf(text);
            if (position < 0 || position >= length) {
                return BAD_INDEX;
            }
            if (!isAmendable(clause)) {
                return BAD_STATE;
            }
            if (length <= 1) {
                return UNSUPPORTED;
            }
            return amend(clause, Text.withDeleted(text, position));
        }

        private boolean isAmendable(Clause clause) {
            return clause.holdsOn(today) && clause.hasRoomForVersion();
        }

        private int amend(Clause clause, long text) {
            clause.addVersion(today, text);
            amendments++;
            return clause.countVersions();
        }

        int trySunset(int id, int day) {
            Clause clause = clauseWithId(id);
            if (clause == null) {
                return NO_ELEMENT;
            }
            if (day < today || day - today > MAX_SUNSET_AHEAD) {
                return BAD_ARGUMENT;
            }
            if (clause.lapsedBy(today)) {
                return BAD_STATE;
            }
            clause.sunset = day;
            return day - today;
        }

        int tryCite(int id, int cited) {
            Clause clause = clauseWithId(id);
            if (clause == null || clauseWithId(cited) == null) {
                return NO_ELEMENT;
            }
            if (id == cited) {
                return BAD_ARGUMENT;
            }
            if (clause.citesId(cited) || clause.countCites() >= MAX_CITES) {
                return BAD_STATE;
            }
            clause.addCite(cited);
            return clause.countCites();
        }

        int tryUncite(int id, int cited) {
            Clause clause = clauseWithId(id);
            if (clause == null || !clause.citesId(cited)) {
                return NO_ELEMENT;
            }
            clause.removeCite(cited);
            return clause.countCites();
        }

        int tryRepeal(int id) {
            Clause clause = clauseWithId(id);
            if (clause == null) {
                return NO_ELEMENT;
            }
            clause.exists = false;
            repealed++;
            return countClauses();
        }

        int tryAdvance(int days) {
            if (days < 1 || days > MAX_ADVANCE) {
                return BAD_ARGUMENT;
            }
            int lapsedBefore = countLapsed();
            today += days;
            return countLapsed() - lapsedBefore;
        }

        int makeEdition() {
            endLapsedClauses();
            dropCitesOfNoClause();
            renumberSections();
            forgetOldVersions();
            editions++;
            editionDays[placeOfEdition(editions)] = today;
            return editions;
        }

        private void endLapsedClauses() {
            for (Clause clause : clauses) {
                if (clause.exists && clause.lapsedBy(today)) {
                    clause.exists = false;
                    consolidated++;
                }
            }
        }

        private void dropCitesOfNoClause() {
            for (Clause clause : clauses) {
                int count = clause.exists ? clause.countCites() : 0;
                // From the last cite to the first, as a removal moves the cites behind it.
                for (int place = count - 1; place >= 0; place--) {
                    int cited = clause.citeAtPlace(place);
                    if (clauseWithId(cited) == null) {
                        clause.removeCite(cited);
                    }
                }
            }
        }

        private void renumberSections() {
            // The clause at a rank has at least rank + 1 as its section, so going up the ranks keeps the order.
            for (int rank = 0; rank < MAX_CLAUSES; rank++) {
                Clause clause = clauseAtRank(rank);
                if (clause != null) {
                    clause.section = rank + 1;
                }
            }
        }

        private void forgetOldVersions() {
            for (Clause clause : clauses) {
                if (clause.exists) {
                    clause.keepLastVersion();
                }
            }
        }

        int dayOfEdition(int edition) {
            return editionDays[placeOfEdition(edition)];
        }

        private static int placeOfEdition(int edition) {
            return Math.floorMod(edition, MAX_EDITIONS_KNOWN);
        }

        private Clause freeClause() {
            for (Clause clause : clauses) {
                if (!clause.exists) {
                    return clause;
                }
            }
            return null;
        }

        int slotWithId(int id) {
            for (int slot = 0; slot < clauses.length; slot++) {
                if (clauses[slot].exists && clauses[slot].id == id) {
                    return slot;
                }
            }
            return NONE;
        }

        Clause clauseWithId(int id) {
            int slot = slotWithId(id);
            return slot == NONE ? null : clauses[slot];
        }

        Clause clauseWithSection(int section) {
            for (Clause clause : clauses) {
                if (clause.exists && clause.section == section) {
                    return clause;
                }
            }
            return null;
        }

        Clause clauseAtRank(int rank) {
            for (Clause clause : clauses) {
                if (clause.exists && countSectionsBelow(clause.section) == rank) {
                    return clause;
                }
            }
            return null;
        }

        private int countSectionsBelow(int section) {
            int count = 0;
            for (Clause clause : clauses) {
                if (clause.exists && clause.section < section) {
                    count++;
                }
            }
            return count;
        }

        int countClauses() {
            int count = 0;
            for (Clause clause : clauses) {
                if (clause.exists) {
                    count++;
                }
            }
            return count;
        }

        int countHoldingOn(int day) {
            int count = 0;
            for (Clause clause : clauses) {
                if (clause.exists && clause.holdsOn(day)) {
                    count++;
                }
            }
            return count;
        }

        private int countLapsed() {
            int count = 0;
            for (Clause clause : clauses) {
                if (clause.exists && clause.lapsedBy(today)) {
                    count++;
                }
            }
            return count;
        }

        int countNotes() {
            int count = 0;
            for (Clause clause : clauses) {
                if (clause.exists) {
                    count += Text.lengthOf(clause.latestText());
                }
            }
            return count;
        }

        int countBrokenCites() {
            int broken = 0;
            for (Clause clause : clauses) {
                int count = clause.exists ? clause.countCites() : 0;
                for (int place = 0; place < count; place++) {
                    Clause cited = clauseWithId(clause.citeAtPlace(place));
                    if (cited == null || !cited.holdsOn(today)) {
                        broken++;
                    }
                }
            }
            return broken;
        }
    }

    /** The books as they were before the latest changes, in a ring of books made once. */
    private static final class History {
        private final Book[] past = new Book[MAX_UNDO];
        private Book before = new Book();
        private int newest = 0;
        private int size = 0;

        History() {
            for (int place = 0; place < past.length; place++) {
                past[place] = new Book();
            }
        }

        /** To be called ahead of each attempt at a change, as only its success shows that it is one. */
        void open(Book book) {
            before.copyFrom(book);
        }

        void keep() {
            newest = Math.floorMod(newest + 1, MAX_UNDO);
            Book forgotten = past[newest];
            past[newest] = before;
            before = forgotten;
            size = Math.min(size + 1, MAX_UNDO);
        }

        void abandon(Book book) {
            book.copyFrom(before);
        }

        void stepBack(Book book) {
            book.copyFrom(past[newest]);
            newest = Math.floorMod(newest - 1, MAX_UNDO);
            size--;
        }

        void clear() {
            size = 0;
        }
    }

    private static final class Differences {
        private final int[][] table = new int[MAX_NOTES + 1][MAX_NOTES + 1];

        int byBeginnings(long one, long other) {
            int rows = Text.lengthOf(one);
            int columns = Text.lengthOf(other);
            for (int row = 0; row <= rows; row++) {
                for (int column = 0; column <= columns; column++) {
                    if (row == 0 || column == 0) {
                        table[row][column] = row + column;
                    } else if (Text.noteOf(one, row - 1) == Text.noteOf(other, column - 1)) {
                        table[row][column] = table[row - 1][column - 1];
                    } else {
                        table[row][column] = 1 + Math.min(table[row - 1][column], table[row][column - 1]);
                    }
                }
            }
            return table[rows][columns];
        }

        int byEnds(long one, long other) {
            int rows = Text.lengthOf(one);
            int columns = Text.lengthOf(other);
            for (int row = rows; row >= 0; row--) {
                for (int column = columns; column >= 0; column--) {
                    if (row == rows || column == columns) {
                        table[row][column] = rows - row + columns - column;
                    } else if (Text.noteOf(one, row) == Text.noteOf(other, column)) {
                        table[row][column] = table[row + 1][column + 1];
                    } else {
                        table[row][column] = 1 + Math.min(table[row + 1][column], table[row][column + 1]);
                    }
                }
            }
            return table[0][0];
        }
    }

    /** A hash map from texts to how often they were added, with twice the slots that a book can fill. */
    private static final class TextCounts {
        private static final int SLOTS = 32;
        // Leaves the five highest bits of a long, which number the slots.
        private static final int SHIFT = 59;
        // 2^64 divided by the golden ratio, made odd: its products spread like texts over the slots.
        private static final long SPREAD = 0x9E3779B97F4A7C15L;

        private final long[] texts = new long[SLOTS];
        private final int[] counts = new int[SLOTS];

        void clear() {
            for (int slot = 0; slot < SLOTS; slot++) {
                counts[slot] = 0;
            }
        }

        int countBeforeAdding(long text) {
            int home = (int) (text * SPREAD >>> SHIFT);
            for (int step = 0; step < SLOTS; step++) {
                int slot = home + step & SLOTS - 1;
                if (counts[slot] == 0) {
                    texts[slot] = text;
                }
                if (texts[slot] == text) {
                    counts[slot]++;
                    return counts[slot] - 1;
                }
            }
            return 0;
        }
    }

    /** Who cites whom among the clauses that exist; a set of clauses is a number with a bit for each slot. */
    private static final class CiteGraph {
        private final int[] direct = new int[MAX_CLAUSES];
        private final int[] closed = new int[MAX_CLAUSES];
        // The clause from which a search starts can be found again, which makes one place more.
        private final int[] queue = new int[MAX_CLAUSES + 1];

        static boolean hasSlot(int slots, int slot) {
            return (slots >>> slot & 1) == 1;
        }

        void read(Book book) {
            for (int slot = 0; slot < MAX_CLAUSES; slot++) {
                Clause clause = book.clauses[slot];
                direct[slot] = clause.exists ? slotsCitedBy(clause, book) : 0;
            }
        }

        private static int slotsCitedBy(Clause clause, Book book) {
            int slots = 0;
            int count = clause.countCites();
            for (int place = 0; place < count; place++) {
                int slot = book.slotWithId(clause.citeAtPlace(place));
                if (slot != NONE) {
                    slots |= 1 << slot;
                }
            }
            return slots;
        }

        int countCiters(int cited) {
            int count = 0;
            for (int slots : direct) {
                if (hasSlot(slots, cited)) {
                    count++;
                }
            }
            return count;
        }

        int slotsFoundFrom(int start) {
            int found = 0;
            int waiting = 1;
            queue[0] = start;
            for (int next = 0; next < waiting && next < queue.length; next++) {
                int fresh = direct[queue[next]] & ~found;
                found |= fresh;
                for (int slot = 0; slot < MAX_CLAUSES; slot++) {
                    if (hasSlot(fresh, slot) && waiting < queue.length) {
                        queue[waiting] = slot;
                        waiting++;
                    }
                }
            }
            return found;
        }

        void close() {
            System.arraycopy(direct, 0, closed, 0, MAX_CLAUSES);
            for (int by = 0; by < MAX_CLAUSES; by++) {
                for (int from = 0; from < MAX_CLAUSES; from++) {
                    if (hasSlot(closed[from], by)) {
                        closed[from] |= closed[by];
                    }
                }
            }
        }

        int slotsClosedFrom(int start) {
            return closed[start];
        }
    }

    /** The commands, each with its keyword and the form of the rest: 1 and 2 are its numbers, n its note. */
    private enum Kind {
        ADD("add ", "1 n"),
        PUT("put ", "1 2n"),
        SET("set ", "1 2n"),
        CUT("cut ", "1 2"),
        SUNSET("sunset ", "1 2"),
        CITE("cite ", "1 2"),
        UNCITE("uncite ", "1 2"),
        REPEAL("repeal ", "1"),
        EDIT("edit", ""),
        WAIT("wait ", "1");

        private final String keyword;
        private final String form;

        Kind(String keyword, String form) {
            this.keyword = keyword;
            this.form = form;
        }
    }

    private static final class Command {
        private Kind kind = Kind.EDIT;
        private int first = 0;
        private int second = 0;
        private char note = 'a';

        int applyTo(Book book) {
            switch (kind) {
                case ADD:
                    return book.tryAdd(first, note);
                case PUT:
                    return book.tryInsert(first, second, note);
                case SET:
                    return book.tryReplace(first, second, note);
                case CUT:
                    return book.tryDelete(first, second);
                case SUNSET:
                    return book.trySunset(first, second);
                case CITE:
                    return book.tryCite(first, second);
                case UNCITE:
                    return book.tryUncite(first, second);
                case REPEAL:
                    return book.tryRepeal(first);
                case WAIT:
                    return book.tryAdvance(first);
                default:
                    return book.makeEdition();
            }
        }
    }

    /** The script buffer, and the commands read from it. */
    private static final class Script {
        private static final Kind[] KINDS = Kind.values();
        // "edit" and the ";" behind it are the shortest command, and the last one goes without ";".
        private static final int MAX_COMMANDS = (MAX_SCRIPT + 1) / 5;

        private final StringBuilder buffer = new StringBuilder();
        private final Command[] commands = new Command[MAX_COMMANDS];
        private int commandCount = 0;
        // Reading stops at the first character that cannot go on, so this ends as the error position.
        private int readUpTo = 0;

        Script() {
            for (int index = 0; index < commands.length; index++) {
                commands[index] = new Command();
            }
        }

        boolean isFull() {
            return buffer.length() >= MAX_SCRIPT;
        }

        int append(char character) {
            buffer.append(character);
            return buffer.length();
        }

        void empty() {
            buffer.setLength(0);
        }

        /** The index of the command that the book refuses, or NONE if it takes them all. */
        int applyTo(Book book) {
            for (int index = 0; index < commandCount && index < commands.length; index++) {
                if (commands[index].applyTo(book) < 0) {
                    return index;
                }
            }
            return NONE;
        }

        boolean read() {
            readUpTo = 0;
            commandCount = 0;
            for (Command command : commands) {
                if (!readKeyword(command) || !readForm(command)) {
                    return false;
                }
                commandCount++;
                if (readUpTo == buffer.length()) {
                    return true;
                }
                if (!readSign(';')) {
                    return false;
                }
            }
            return false;
        }

        private boolean readKeyword(Command command) {
            int longest = 0;
            for (Kind kind : KINDS) {
                int same = countSame(kind.keyword);
                longest = Math.max(longest, same);
                if (same == kind.keyword.length()) {
                    command.kind = kind;
                    readUpTo += same;
                    return true;
                }
            }
            readUpTo += longest;
            return false;
        }

        private int countSame(String keyword) {
            int same = 0;
            while (same < keyword.length() && isNext(same, keyword.charAt(same))) {
                same++;
            }
            return same;
        }

        private boolean readForm(Command command) {
            String form = command.kind.form;
            for (int index = 0; index < form.length(); index++) {
                if (!readPart(form.charAt(index), command)) {
                    return false;
                }
            }
            return true;
        }

        private boolean readPart(char part, Command command) {
            switch (part) {
                case '1':
                    command.first = readNumber();
                    return command.first != NONE;
                case '2':
                    command.second = readNumber();
                    return command.second != NONE;
                case 'n':
                    return readNote(command);
                default:
                    return readSign(part);
            }
        }

        private int readNumber() {
            int number = NONE;
            for (int digits = 0; digits < MAX_DIGITS && isNextIn('0', '9'); digits++) {
                int digit = buffer.charAt(readUpTo) - '0';
                number = number == NONE ? digit : number * 10 + digit;
                readUpTo++;
            }
            return number;
        }

        private boolean readNote(Command command) {
            if (!isNextIn('a', 'g')) {
                return false;
            }
            command.note = buffer.charAt(readUpTo);
            readUpTo++;
            return true;
        }

        private boolean readSign(char sign) {
            if (!isNext(0, sign)) {
                return false;
            }
            readUpTo++;
            return true;
        }

        private boolean isNext(int ahead, char sign) {
            int index = readUpTo + ahead;
            return index < buffer.length() && buffer.charAt(index) == sign;
        }

        private boolean isNextIn(char lowest, char highest) {
            return readUpTo < buffer.length()
                    && buffer.charAt(readUpTo) >= lowest && buffer.charAt(readUpTo) <= highest;
        }
    }
}
