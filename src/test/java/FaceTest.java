import java.io.IOException;
import java.lang.reflect.Constructor;
import java.lang.reflect.Executable;
import java.lang.reflect.Field;
import java.lang.reflect.Method;
import java.lang.reflect.Modifier;
import java.nio.file.Files;
import java.nio.file.Path;
import java.util.ArrayList;
import java.util.List;
import java.util.Set;
import java.util.TreeSet;
import java.util.stream.Collectors;
import java.util.stream.Stream;

/** The document's face, whole and nothing besides it, and the rules of LANGUAGE.md that a look at words can tell. */
final class FaceTest {
    private static final Path DOCUMENT = Path.of("../shared/DOC.md");
    private static final Path SOURCE = Path.of("src/main/java/ClauseLedger.java");
    private static final String[] BANNED = {"->", "::", "catch", "try {", "finally", "synchronized", "assert ",
            "package ", "@", "import java.util.*", "Exact(", "record ", "instanceof", "var ", "yield", "System.out",
            "Long.SIZE", "\" +", "+ \""};

    public static void main(String[] args) throws IOException {
        face();
        nothingElseIsVisible();
        words();
        Check.end();
    }

    private static void face() throws IOException {
        Set<String> due = Files.readAllLines(DOCUMENT).stream()
                .filter(line -> line.startsWith("    public ") && line.endsWith(";"))
                .map(FaceTest::plain).collect(Collectors.toCollection(TreeSet::new));
        Set<String> got = Stream.<Executable>concat(
                Stream.of(ClauseLedger.class.getDeclaredConstructors()),
                Stream.of(ClauseLedger.class.getDeclaredMethods()))
                .filter(member -> Modifier.isPublic(member.getModifiers()))
                .map(FaceTest::signature).collect(Collectors.toCollection(TreeSet::new));
        Check.same("1 members of the face", due.size(), 55);
        Check.same("1 face", got, due);
        Check.same("1 class", Modifier.toString(ClauseLedger.class.getModifiers()), "public final");
    }

    /** "public int f(int a, char b) throws X;" becomes "int f(int,char) throws X". */
    private static String plain(String line) {
        return line.strip().replace("public ", "").replace(";", "")
                .replaceAll("(int|char) \\w+([,)])", "$1$2").replace(", ", ",");
    }

    private static String signature(Executable member) {
        String types = Stream.of(member.getParameterTypes()).map(Class::getSimpleName)
                .collect(Collectors.joining(","));
        String thrown = Stream.of(member.getExceptionTypes()).map(Class::getSimpleName)
                .collect(Collectors.joining(","));
        String result = member instanceof Method method ? method.getReturnType().getSimpleName() + " " : "";
        return result + (member instanceof Constructor ? "ClauseLedger" : member.getName()) + "(" + types + ")"
                + (thrown.isEmpty() ? "" : " throws " + thrown);
    }

    private static void nothingElseIsVisible() {
        List<String> open = new ArrayList<>();
        Set<String> faceNames = new TreeSet<>();
        for (Field field : ClauseLedger.class.getDeclaredFields()) {
            if (!Modifier.isPrivate(field.getModifiers())) {
                open.add(field.getName());
            }
        }
        for (Method method : ClauseLedger.class.getDeclaredMethods()) {
            if (Modifier.isPublic(method.getModifiers())) {
                faceNames.add(method.getName());
            } else if (!Modifier.isPrivate(method.getModifiers())) {
                open.add(method.getName());
            }
        }
        Check.same("rule 1: not private", open, List.of());
        Class<?>[] inside = ClauseLedger.class.getDeclaredClasses();
        Check.same("rule 11: classes", inside.length + 1 <= 12, true);
        for (Class<?> nested : inside) {
            Check.same("rule 2: static " + nested, Modifier.isStatic(nested.getModifiers()), true);
            for (Method method : nested.getDeclaredMethods()) {
                Check.same("rule 1: name of " + method, faceNames.contains(method.getName()), false);
            }
        }
    }

    private static void words() throws IOException {
        String source = Files.readString(SOURCE);
        for (String word : BANNED) {
            Check.same("LANGUAGE.md: " + word, source.contains(word), false);
        }
        Check.same("rule 4: imports", source.split("import ").length, 2);
        Check.same("ASCII", source.chars().allMatch(sign -> sign < 128), true);
    }
}
