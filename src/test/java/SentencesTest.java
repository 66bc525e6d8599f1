import java.io.IOException;
import java.nio.file.Files;
import java.nio.file.Path;
import java.util.ArrayList;
import java.util.LinkedHashMap;
import java.util.LinkedHashSet;
import java.util.List;
import java.util.Map;
import java.util.Set;
import java.util.regex.Matcher;
import java.util.regex.Pattern;
import java.util.stream.Collectors;
import java.util.stream.Stream;

/**
 * The comments of the edge tests against the document: every quote stands in the section that is named, has a test
 * of its own behind it, and no refusal and no sentence of "Terms" that names an edge is left without one.
 */
final class SentencesTest {
    private static final Path DOCUMENT = Path.of("../shared/DOC.md");
    private static final Path TESTS = Path.of("src/test/java");
    private static final Pattern QUOTE = Pattern.compile(
            "(What it is|Terms|Promise \\d+)(?:, for promise (\\d+))?: \"(.*)\"");
    private static final Pattern TEST = Pattern.compile("    static void \\w+\\(\\) \\{");
    private static final String SEVERAL = "If several exceptions apply, the one that is listed first is thrown.";
    private static final int PROMISES = 55;
    // No call of the face divides integers, and the other sentences tell of no value and no state.
    private static final Set<String> WITHOUT_EDGE = Set.of(
            "The class compares versions and finds duplicates and indirect cites in two ways each, and offers "
                    + "predictions, rankings, a small command language, undo and a snapshot.",
            "It is not thread-safe.",
            "All integer divisions round down.",
            "A clause has versions; a version has a day and a text.",
            "A consolidation has four steps.");

    private final Map<String, String> sections = new LinkedHashMap<>();
    private final Map<String, Set<String>> quotes = new LinkedHashMap<>();
    private final Set<Integer> orderTested = new LinkedHashSet<>();

    public static void main(String[] args) throws IOException {
        SentencesTest test = new SentencesTest();
        test.readDocument();
        test.readTests();
        test.refusalsAreQuoted();
        test.termsAreQuoted();
        Check.end();
    }

    private static String plain(String text) {
        return text.replace("`", "").replaceAll("\\s+", " ").strip();
    }

    private void readDocument() throws IOException {
        for (String section : Files.readString(DOCUMENT).split("(?m)^## ")) {
            String title = section.lines().findFirst().orElse("");
            sections.put(title.replaceAll(":.*", ""), section.substring(title.length()));
        }
        Check.same("sections", sections.keySet().containsAll(List.of("What it is", "Terms", "Promise 1", "Promise 55")),
                true);
    }

    private void readTests() throws IOException {
        List<Path> files;
        try (Stream<Path> all = Files.list(TESTS)) {
            files = all.filter(file -> file.toString().endsWith("EdgesTest.java")).sorted()
                    .collect(Collectors.toList());
        }
        for (Path file : files) {
            readTest(file);
        }
    }

    private void readTest(Path file) throws IOException {
        StringBuilder comment = new StringBuilder();
        for (String line : Files.readAllLines(file)) {
            if (line.startsWith("    // ")) {
                comment.append(line.substring(6));
            } else {
                boolean isTest = TEST.matcher(line).matches();
                Matcher quote = QUOTE.matcher(plain(comment.toString()));
                Check.same(file + ": a quote and a test, at " + line.strip() + comment, quote.matches(), isTest);
                if (isTest && quote.matches()) {
                    keep(quote);
                }
                comment.setLength(0);
            }
        }
    }

    private void keep(Matcher quote) {
        String section = quote.group(1);
        String sentence = quote.group(3);
        Check.same(section + " says \"" + sentence + "\"",
                plain(sections.getOrDefault(section, "")).contains(sentence), true);
        quotes.computeIfAbsent(section, none -> new LinkedHashSet<>()).add(sentence);
        if (quote.group(2) != null) {
            Check.same("the order of exceptions", sentence, SEVERAL);
            orderTested.add(Integer.valueOf(quote.group(2)));
        }
    }

    private void refusalsAreQuoted() {
        for (int promise = 1; promise <= PROMISES; promise++) {
            String section = "Promise " + promise;
            List<String> refusals = Stream.of(sections.getOrDefault(section, "").split("\n\n"))
                    .map(SentencesTest::plain).filter(paragraph -> paragraph.startsWith("Throws "))
                    .collect(Collectors.toList());
            Set<String> quoted = quotes.getOrDefault(section, Set.of());
            Check.same(section + " has a test", quoted.isEmpty(), false);
            for (String refusal : refusals) {
                Check.same(section + " tests \"" + refusal + "\"", quoted.contains(refusal), true);
            }
            Check.same(section + " tests the order of its exceptions", orderTested.contains(promise),
                    refusals.size() > 1);
        }
    }

    private void termsAreQuoted() {
        Set<String> quoted = quotes.getOrDefault("Terms", Set.of());
        for (String sentence : termSentences()) {
            Check.same("Terms tests \"" + sentence + "\"", quoted.contains(sentence),
                    !WITHOUT_EDGE.contains(sentence));
        }
    }

    /** The paragraphs' sentences without their one-word headings, and the lines of the scripts' form. */
    private List<String> termSentences() {
        List<String> sentences = new ArrayList<>();
        for (String paragraph : sections.getOrDefault("Terms", "").split("\n\n")) {
            if (paragraph.startsWith("```")) {
                paragraph.lines().filter(line -> !line.startsWith("```")).map(SentencesTest::plain)
                        .forEach(sentences::add);
            } else if (!paragraph.startsWith("Ahead of the calls ")) {
                Stream.of(plain(paragraph).split("(?<=\\.) (?=[A-Z])")).filter(text -> text.contains(" "))
                        .forEach(sentences::add);
            }
        }
        Check.same("sentences were found", sentences.size() > 40, true);
        return sentences;
    }
}
