import java.util.ArrayDeque;
import java.util.ArrayList;
import java.util.Collection;
import java.util.Comparator;
import java.util.Deque;
import java.util.HashSet;
import java.util.List;
import java.util.NoSuchElementException;
import java.util.Set;
import java.util.TreeMap;
import java.util.regex.Matcher;
import java.util.regex.Pattern;

/** The document told a second time, with the library's collections, to be compared with the class. */
final class Model {
    record Version(int day, String text) {
    }

    static final class Clause {
        int id;
        int section;
        int enacted;
        Integer sunset;
        List<Version> versions = new ArrayList<>();
        List<Integer> cites = new ArrayList<>();

        Clause copy() {
            Clause copy = new Clause();
            copy.id = id;
            copy.section = section;
            copy.enacted = enacted;
            copy.sunset = sunset;
            copy.versions = new ArrayList<>(versions);
            copy.cites = new ArrayList<>(cites);
            return copy;
        }

        String text() {
            return versions.get(versions.size() - 1).text();
        }
    }

    static final class State {
        TreeMap<Integer, Clause> clauses = new TreeMap<>();
        int nextId;
        int day;
        int added;
        int amended;
        int repealed;
        int consolidated;
        List<Integer> editions = new ArrayList<>();

        State copy() {
            State copy = new State();
            clauses.forEach((id, clause) -> copy.clauses.put(id, clause.copy()));
            copy.nextId = nextId;
            copy.day = day;
            copy.added = added;
            copy.amended = amended;
            copy.repealed = repealed;
            copy.consolidated = consolidated;
            copy.editions = new ArrayList<>(editions);
            return copy;
        }
    }

    private static final String NUMBER = "[0-9]{1,3}";
    private static final String COMMAND = "(?:add " + NUMBER + " [a-g]|(?:put|set) " + NUMBER + " " + NUMBER
            + "[a-g]|cut " + NUMBER + " " + NUMBER + "|sunset " + NUMBER + " " + NUMBER + "|(?:cite|uncite) "
            + NUMBER + " " + NUMBER + "|repeal " + NUMBER + "|edit|wait " + NUMBER + ")";
    private static final Pattern SCRIPT = Pattern.compile(COMMAND + "(?:;" + COMMAND + ")*");

    private State state = new State();
    private State snapshot;
    private final Deque<State> past = new ArrayDeque<>();
    private String buffer = "";
    private String output = "";
    private Integer errorPosition;
    private Integer failedCommand;
    private boolean inScript = false;

    private static void demand(boolean held, RuntimeException otherwise) {
        if (!held) {
            throw otherwise;
        }
    }

    private Clause get(int id) {
        Clause clause = state.clauses.get(id);
        demand(clause != null, new NoSuchElementException());
        return clause;
    }

    private void changes() {
        if (!inScript) {
            past.addLast(state.copy());
            if (past.size() > 8) {
                past.removeFirst();
            }
        }
    }

    private static boolean isNote(char note) {
        return "abcdefg".indexOf(note) >= 0;
    }

    private boolean inForce(Clause clause, int day) {
        return clause.enacted <= day && (clause.sunset == null || day <= clause.sunset);
    }

    private boolean lapsed(Clause clause) {
        return clause.sunset != null && clause.sunset < state.day;
    }

    private List<Clause> bySection() {
        List<Clause> sorted = new ArrayList<>(state.clauses.values());
        sorted.sort(Comparator.comparingInt(clause -> clause.section));
        return sorted;
    }

    public int addClause(int section, char note) {
        demand(section >= 1 && section <= 99 && isNote(note), new IllegalArgumentException());
        demand(state.clauses.size() < 16, new IllegalStateException());
        demand(bySection().stream().noneMatch(clause -> clause.section == section),
                new UnsupportedOperationException());
        changes();
        Clause clause = new Clause();
        clause.id = state.nextId++;
        clause.section = section;
        clause.enacted = state.day;
        clause.versions.add(new Version(state.day, "" + note));
        state.clauses.put(clause.id, clause);
        state.added++;
        return clause.id;
    }

    private int amend(int id, String text) {
        changes();
        get(id).versions.add(new Version(state.day, text));
        state.amended++;
        return get(id).versions.size();
    }

    private void demandAmendable(Clause clause) {
        demand(inForce(clause, state.day) && clause.versions.size() < 8, new IllegalStateException());
    }

    public int insertNote(int clause, int position, char note) {
        String text = get(clause).text();
        demand(position >= 0 && position <= text.length(), new IndexOutOfBoundsException());
        demand(isNote(note), new IllegalArgumentException());
        demandAmendable(get(clause));
        demand(text.length() < 12, new UnsupportedOperationException());
        return amend(clause, new StringBuilder(text).insert(position, note).toString());
    }

    public int replaceNote(int clause, int position, char note) {
        String text = get(clause).text();
        demand(position >= 0 && position < text.length(), new IndexOutOfBoundsException());
        demand(isNote(note), new IllegalArgumentException());
        demandAmendable(get(clause));
        return amend(clause, text.substring(0, position) + note + text.substring(position + 1));
    }

    public int deleteNote(int clause, int position) {
        String text = get(clause).text();
        demand(position >= 0 && position < text.length(), new IndexOutOfBoundsException());
        demandAmendable(get(clause));
        demand(text.length() > 1, new UnsupportedOperationException());
        return amend(clause, new StringBuilder(text).deleteCharAt(position).toString());
    }

    public int setSunset(int clause, int day) {
        Clause asked = get(clause);
        demand(day >= state.day && (long) day <= (long) state.day + 9999, new IllegalArgumentException());
        demand(!lapsed(asked), new IllegalStateException());
        changes();
        asked.sunset = day;
        return day - state.day;
    }

    public int cite(int clause, int cited) {
        Clause citing = get(clause);
        get(cited);
        demand(clause != cited, new IllegalArgumentException());
        demand(!citing.cites.contains(cited) && citing.cites.size() < 4, new IllegalStateException());
        changes();
        citing.cites.add(cited);
        return citing.cites.size();
    }

    public int uncite(int clause, int cited) {
        demand(get(clause).cites.contains(cited), new NoSuchElementException());
        changes();
        get(clause).cites.remove((Integer) cited);
        return get(clause).cites.size();
    }

    public int repeal(int clause) {
        get(clause);
        changes();
        state.clauses.remove(clause);
        state.repealed++;
        return state.clauses.size();
    }

    public int consolidate() {
        changes();
        int before = state.clauses.size();
        state.clauses.values().removeIf(this::lapsed);
        state.consolidated += before - state.clauses.size();
        int section = 1;
        for (Clause clause : bySection()) {
            clause.cites.retainAll(state.clauses.keySet());
            clause.section = section++;
            clause.versions.subList(0, clause.versions.size() - 1).clear();
        }
        state.editions.add(state.day);
        return state.editions.size();
    }

    private long lapsedCount() {
        return state.clauses.values().stream().filter(this::lapsed).count();
    }

    public int advance(int days) {
        demand(days >= 1 && days <= 400, new IllegalArgumentException());
        changes();
        long before = lapsedCount();
        state.day += days;
        return (int) (lapsedCount() - before);
    }

    public int day() {
        return state.day;
    }

    public int clauseCount() {
        return state.clauses.size();
    }

    public int clauseAt(int position) {
        demand(position >= 0 && position < state.clauses.size(), new NoSuchElementException());
        return bySection().get(position).id;
    }

    public int clauseOfSection(int section) {
        return bySection().stream().filter(clause -> clause.section == section).findAny()
                .orElseThrow(NoSuchElementException::new).id;
    }

    public int section(int clause) {
        return get(clause).section;
    }

    public int enactedOn(int clause) {
        return get(clause).enacted;
    }

    public int sunset(int clause) {
        demand(get(clause).sunset != null, new NoSuchElementException());
        return get(clause).sunset;
    }

    public boolean isInForce(int clause, int day) {
        return inForce(get(clause), day);
    }

    public boolean hasLapsed(int clause) {
        return lapsed(get(clause));
    }

    public int inForceOn(int day) {
        return (int) state.clauses.values().stream().filter(clause -> inForce(clause, day)).count();
    }

    public int daysUntilLapsed(int clause) {
        return Math.max(0, sunset(clause) + 1 - state.day);
    }

    public int length(int clause) {
        return get(clause).text().length();
    }

    private static char charOf(String text, int position) {
        demand(position >= 0 && position < text.length(), new IndexOutOfBoundsException());
        return text.charAt(position);
    }

    public char noteAt(int clause, int position) {
        return charOf(get(clause).text(), position);
    }

    public int versionCount(int clause) {
        return get(clause).versions.size();
    }

    private String textOn(int clause, int day) {
        String text = null;
        for (Version version : get(clause).versions) {
            text = version.day() <= day ? version.text() : text;
        }
        demand(text != null, new NoSuchElementException());
        return text;
    }

    public int lengthOn(int clause, int day) {
        return textOn(clause, day).length();
    }

    public char noteOn(int clause, int day, int position) {
        return charOf(textOn(clause, day), position);
    }

    /** By the longest common subsequence, found by trying all subsequences of the one text. */
    public int difference(int clause, int first, int second) {
        String one = textOn(clause, first);
        String other = textOn(clause, second);
        int longest = 0;
        for (int chosen = 0; chosen < 1 << one.length(); chosen++) {
            int found = 0;
            int at = 0;
            for (int index = 0; index < one.length() && at >= 0; index++) {
                if ((chosen >> index & 1) == 1) {
                    at = other.indexOf(one.charAt(index), at) + 1;
                    found++;
                    at = at == 0 ? -1 : at;
                }
            }
            longest = at >= 0 ? Math.max(longest, found) : longest;
        }
        return one.length() + other.length() - 2 * longest;
    }

    public int differenceByEnds(int clause, int first, int second) {
        return difference(clause, first, second);
    }

    public int duplicatePairs() {
        int pairs = 0;
        for (Clause one : state.clauses.values()) {
            for (Clause other : state.clauses.values()) {
                pairs += one.id < other.id && one.text().equals(other.text()) ? 1 : 0;
            }
        }
        return pairs;
    }

    public int duplicatePairsByComparing() {
        return duplicatePairs();
    }

    public int citeCount(int clause) {
        return get(clause).cites.size();
    }

    public int citeAt(int clause, int position) {
        List<Integer> cites = get(clause).cites;
        demand(position >= 0 && position < cites.size(), new IndexOutOfBoundsException());
        return cites.get(position);
    }

    public int brokenCites() {
        return (int) state.clauses.values().stream().map(clause -> clause.cites).flatMap(Collection::stream)
                .map(state.clauses::get).filter(cited -> cited == null || !inForce(cited, state.day)).count();
    }

    public boolean citesIndirectly(int clause, int cited) {
        get(clause);
        get(cited);
        Set<Integer> reached = new HashSet<>();
        Deque<Integer> open = new ArrayDeque<>(List.of(clause));
        while (!open.isEmpty()) {
            for (int next : get(open.removeFirst()).cites) {
                if (state.clauses.containsKey(next) && reached.add(next)) {
                    open.add(next);
                }
            }
        }
        return reached.contains(cited);
    }

    public boolean citesByClosure(int clause, int cited) {
        return citesIndirectly(clause, cited);
    }

    private int citers(Clause cited) {
        return (int) state.clauses.values().stream().filter(clause -> clause.cites.contains(cited.id)).count();
    }

    public int clauseByCites(int rank) {
        demand(rank >= 0 && rank < state.clauses.size(), new NoSuchElementException());
        List<Clause> sorted = bySection();
        sorted.sort(Comparator.comparingInt(clause -> -citers(clause)));
        return sorted.get(rank).id;
    }

    public int addedTotal() {
        return state.added;
    }

    public int amendmentTotal() {
        return state.amended;
    }

    public int repealedTotal() {
        return state.repealed;
    }

    public int consolidatedTotal() {
        return state.consolidated;
    }

    public int editionCount() {
        return state.editions.size();
    }

    public int editionDay(int edition) {
        int latest = state.editions.size();
        demand(edition >= 1 && edition <= latest && edition > latest - 6, new NoSuchElementException());
        return state.editions.get(edition - 1);
    }

    public double meanLength() {
        demand(!state.clauses.isEmpty(), new ArithmeticException());
        int sum = state.clauses.values().stream().mapToInt(clause -> clause.text().length()).sum();
        return (double) sum / (double) state.clauses.size();
    }

    public float inForceShare() {
        demand(!state.clauses.isEmpty(), new ArithmeticException());
        return (float) inForceOn(state.day) / (float) state.clauses.size();
    }

    public boolean isConsistent() {
        return true;
    }

    public int renderClause(int clause) {
        Clause shown = get(clause);
        output = shown.section + ":" + shown.text() + (shown.sunset == null ? "" : "~" + shown.sunset)
                + (inForce(shown, state.day) ? "" : "!");
        return output.length();
    }

    public char outputAt(int index) {
        return charOf(output, index);
    }

    public int type(char character) {
        demand(character >= 32 && character <= 126, new IllegalArgumentException());
        demand(buffer.length() < 60, new IllegalStateException());
        buffer += character;
        return buffer.length();
    }

    /** A beginning can go on to a script if it is one, or if the matcher came to its end without a clash. */
    private static boolean canGoOn(String beginning) {
        Matcher matcher = SCRIPT.matcher(beginning);
        return matcher.matches() || matcher.hitEnd();
    }

    private static int errorPositionOf(String script) {
        for (int length = 1; length <= script.length(); length++) {
            if (!canGoOn(script.substring(0, length))) {
                return length - 1;
            }
        }
        return script.length();
    }

    public int runScript() {
        String script = buffer;
        buffer = "";
        if (!SCRIPT.matcher(script).matches()) {
            errorPosition = errorPositionOf(script);
            throw new IllegalArgumentException();
        }
        State before = state.copy();
        String[] commands = script.split(";");
        inScript = true;
        try {
            for (int index = 0; index < commands.length; index++) {
                Object answer = Check.answerOf(callOf(commands[index]));
                if (answer instanceof Class) {
                    state = before;
                    failedCommand = index;
                    throw new IllegalStateException();
                }
            }
        } finally {
            inScript = false;
        }
        State after = state;
        state = before;
        changes();
        state = after;
        return commands.length;
    }

    private java.util.function.Supplier<?> callOf(String command) {
        String[] words = command.split(" ");
        int first = words.length > 1 ? Integer.parseInt(words[1]) : 0;
        String last = words[words.length - 1];
        char note = last.charAt(last.length() - 1);
        String digits = last.replaceAll("[^0-9]", "");
        int second = digits.isEmpty() ? 0 : Integer.parseInt(digits);
        return switch (words[0]) {
            case "add" -> () -> addClause(first, note);
            case "put" -> () -> insertNote(first, second, note);
            case "set" -> () -> replaceNote(first, second, note);
            case "cut" -> () -> deleteNote(first, second);
            case "sunset" -> () -> setSunset(first, second);
            case "cite" -> () -> cite(first, second);
            case "uncite" -> () -> uncite(first, second);
            case "repeal" -> () -> repeal(first);
            case "edit" -> this::consolidate;
            default -> () -> advance(first);
        };
    }

    public int errorPosition() {
        demand(errorPosition != null, new NoSuchElementException());
        return errorPosition;
    }

    public int failedCommand() {
        demand(failedCommand != null, new NoSuchElementException());
        return failedCommand;
    }

    public int undo() {
        demand(!past.isEmpty(), new NoSuchElementException());
        state = past.removeLast();
        return past.size();
    }

    public int save() {
        snapshot = state.copy();
        return snapshot.clauses.size();
    }

    public int restore() {
        demand(snapshot != null, new IllegalStateException());
        state = snapshot.copy();
        past.clear();
        return state.clauses.size();
    }
}
