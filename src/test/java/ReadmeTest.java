import java.io.IOException;
import java.nio.file.Files;
import java.nio.file.Path;
import java.util.List;
import java.util.NoSuchElementException;
import java.util.stream.Collectors;

/** The example of README.md: its lines stand in example(), which shows that they do what is said beside them. */
final class ReadmeTest {
    private static final Path README = Path.of("README.md");
    private static final Path SELF = Path.of("src/test/java/ReadmeTest.java");

    public static void main(String[] args) throws IOException {
        example();
        exampleIsTheOneOfTheReadme();
        Check.end();
    }

    private static void example() {
        ClauseLedger ledger = new ClauseLedger();
        int clause = ledger.addClause(12, 'a');
        Check.same("id", clause, 0);
        Check.same("added", rendered(ledger, clause), "12:a");
        ledger.insertNote(clause, 1, 'b');
        Check.same("versions", ledger.versionCount(clause), 2);
        ledger.setSunset(clause, 20);
        Check.same("in force on day 20", ledger.isInForce(clause, 20), true);
        Check.same("in force on day 21", ledger.isInForce(clause, 21), false);
        int length = ledger.renderClause(clause);
        Check.same("length", length, "12:ab~20".length());
        Check.same("rendered", rendered(ledger, clause), "12:ab~20");

        ledger.save();
        for (char character : "put 0 2c;wait 21".toCharArray()) {
            ledger.type(character);
        }
        ledger.runScript();
        Check.same("after the script", rendered(ledger, clause), "12:abc~20!");
        Check.same("lapsed", ledger.hasLapsed(clause), true);
        ledger.undo();
        Check.same("day after undo", ledger.day(), 0);
        Check.same("after undo", rendered(ledger, clause), "12:ab~20");
        ledger.repeal(clause);
        Check.refused("repealed", NoSuchElementException.class, () -> ledger.section(clause));
        ledger.restore();
        Check.same("restored", rendered(ledger, clause), "12:ab~20");
        Check.refused("nothing to undo", NoSuchElementException.class, ledger::undo);
    }

    private static String rendered(ClauseLedger ledger, int clause) {
        int length = ledger.renderClause(clause);
        StringBuilder text = new StringBuilder();
        for (int index = 0; index < length; index++) {
            text.append(ledger.outputAt(index));
        }
        return text.toString();
    }

    private static void exampleIsTheOneOfTheReadme() throws IOException {
        String afterStart = Files.readString(README).split("```java\n", 2)[1];
        List<String> shown = statements(afterStart.split("```", 2)[0]);
        String body = Files.readString(SELF).split("void example\\(\\) \\{\n", 2)[1].split("\n    }\n", 2)[0];
        List<String> run = statements(body).stream().filter(line -> !line.startsWith("Check."))
                .collect(Collectors.toList());
        Check.same("the lines of the example", run, shown);
    }

    private static List<String> statements(String code) {
        return code.lines().map(line -> line.replaceAll(" *// .*", "").strip()).filter(line -> !line.isEmpty())
                .collect(Collectors.toList());
    }
}
