import java.lang.reflect.InvocationTargetException;
import java.lang.reflect.Method;
import java.util.ArrayList;
import java.util.Arrays;
import java.util.Comparator;
import java.util.List;

/** Runs of 512 calls, the same on each day, on the class and on the model: every answer is compared. */
final class RandomRunsTest {
    private static final int RUNS = 400;
    private static final int CALLS = 512;
    private static final String[] CHANGES = {"addClause", "insertNote", "replaceNote", "deleteNote", "setSunset",
            "cite", "uncite", "repeal", "consolidate", "advance"};
    private static final String[] KEYWORDS = {"add", "put", "set", "cut", "sunset", "cite", "uncite", "repeal",
            "edit", "wait"};
    // How often each change comes, by the kind of the run: mixed, many clauses, long texts, many cites, time.
    private static final int[][] WEIGHTS = {
            {10, 10, 10, 8, 6, 10, 4, 4, 4, 6},
            {30, 4, 4, 2, 2, 12, 3, 2, 2, 2},
            {3, 40, 8, 8, 1, 3, 1, 1, 8, 2},
            {14, 2, 2, 1, 2, 40, 6, 3, 2, 1},
            {14, 6, 6, 4, 20, 8, 2, 2, 3, 14}};

    private final List<Method> queries = new ArrayList<>();
    private final int run;
    private final int[] weights;
    private final ClauseLedger ledger = new ClauseLedger();
    private final Model model = new Model();
    private long seed;
    private int calls = 0;

    private RandomRunsTest(int run) {
        this.run = run;
        this.seed = run * 7919L + 1;
        this.weights = WEIGHTS[run % WEIGHTS.length];
        List<String> others = new ArrayList<>(List.of(CHANGES));
        others.addAll(List.of("type", "runScript", "undo", "save", "restore"));
        for (Method method : ClauseLedger.class.getDeclaredMethods()) {
            if (java.lang.reflect.Modifier.isPublic(method.getModifiers()) && !others.contains(method.getName())) {
                queries.add(method);
            }
        }
        queries.sort(Comparator.comparing(Method::getName));
    }

    public static void main(String[] args) {
        for (int run = 0; run < RUNS; run++) {
            new RandomRunsTest(run).go();
        }
        Check.end();
    }

    private int upTo(int bound) {
        seed = seed * 6364136223846793005L + 1442695040888963407L;
        return (int) ((seed >>> 33) % bound);
    }

    private void go() {
        while (calls < CALLS) {
            int kind = upTo(100);
            if (kind < 44) {
                change();
            } else if (kind < 90) {
                query(queries.get(upTo(queries.size())));
            } else if (kind < 92) {
                script();
            } else if (kind < 93) {
                call("type", (char) (upTo(20) == 0 ? upTo(65536) : 20 + upTo(120)));
            } else if (kind < 97) {
                call("undo");
            } else if (kind < 98) {
                call("save");
            } else if (upTo(3) == 0) {
                call("restore");
            }
        }
    }

    private void call(String name, Object... arguments) {
        if (calls >= CALLS) {
            return;
        }
        calls++;
        Object due = answer(model, name, arguments);
        Object got = answer(ledger, name, arguments);
        Check.same("run " + run + " call " + calls + " " + name + Arrays.toString(arguments), got, due);
    }

    private static Object answer(Object object, String name, Object[] arguments) {
        Class<?>[] types = new Class<?>[arguments.length];
        for (int index = 0; index < types.length; index++) {
            types[index] = arguments[index] instanceof Character ? char.class : int.class;
        }
        try {
            return object.getClass().getDeclaredMethod(name, types).invoke(object, arguments);
        } catch (InvocationTargetException thrown) {
            return thrown.getCause().getClass();
        } catch (ReflectiveOperationException wrong) {
            throw new IllegalStateException(wrong);
        }
    }

    private int weighted() {
        int drawn = upTo(Arrays.stream(weights).sum());
        int index = 0;
        while (drawn >= weights[index]) {
            drawn -= weights[index];
            index++;
        }
        return index;
    }

    private void change() {
        switch (weighted()) {
            case 0 -> call("addClause", section(), note());
            case 1 -> call("insertNote", clause(), position(), note());
            case 2 -> call("replaceNote", clause(), position(), note());
            case 3 -> call("deleteNote", clause(), position());
            case 4 -> call("setSunset", clause(), day());
            case 5 -> call("cite", clause(), clause());
            case 6 -> call("uncite", clause(), clause());
            case 7 -> call("repeal", clause());
            case 8 -> call("consolidate");
            default -> call("advance", days());
        }
    }

    private int odd(int usual) {
        int[] odd = {Integer.MIN_VALUE, Integer.MAX_VALUE, -1, 0, 1000};
        return upTo(40) == 0 ? odd[upTo(odd.length)] : usual;
    }

    private int clause() {
        int count = model.clauseCount();
        if (count > 0 && upTo(12) > 0) {
            return model.clauseAt(upTo(count));
        }
        return odd(upTo(model.addedTotal() + 2));
    }

    private int section() {
        return odd(upTo(15) == 0 ? 95 + upTo(8) : 1 + upTo(30));
    }

    private int position() {
        return odd(upTo(3) == 0 ? upTo(14) - 1 : upTo(4));
    }

    private char note() {
        return (char) (upTo(25) == 0 ? 90 + upTo(20) : 'a' + upTo(upTo(2) == 0 ? 2 : 7));
    }

    private int day() {
        return odd(upTo(12) == 0 ? model.day() + 9990 + upTo(20) : model.day() - 3 + upTo(9));
    }

    private int days() {
        return odd(upTo(12) == 0 ? 395 + upTo(10) : upTo(4));
    }

    private void query(Method query) {
        String name = query.getName();
        switch (name) {
            case "isInForce", "lengthOn" -> call(name, clause(), day());
            case "noteOn" -> call(name, clause(), day(), position());
            case "difference", "differenceByEnds" -> call(name, clause(), day(), day());
            case "citesIndirectly", "citesByClosure" -> call(name, clause(), clause());
            case "noteAt", "citeAt" -> call(name, clause(), position());
            case "clauseOfSection" -> call(name, section());
            case "inForceOn" -> call(name, day());
            case "clauseAt", "clauseByCites" -> call(name, odd(upTo(model.clauseCount() + 2) - 1));
            case "editionDay" -> call(name, odd(model.editionCount() - 7 + upTo(10)));
            case "outputAt" -> call(name, odd(upTo(20)));
            default -> {
                if (query.getParameterCount() == 0) {
                    call(name);
                } else {
                    call(name, clause());
                }
            }
        }
    }

    private void script() {
        StringBuilder script = new StringBuilder();
        int commands = 1 + upTo(5);
        for (int index = 0; index < commands; index++) {
            String command = command();
            if (script.length() + command.length() <= 58) {
                script.append(index == 0 ? "" : ";").append(command);
            }
        }
        spoil(script);
        for (int index = 0; index < script.length(); index++) {
            call("type", script.charAt(index));
        }
        call("runScript");
        call("errorPosition");
        call("failedCommand");
    }

    private String command() {
        int kind = weighted();
        String start = KEYWORDS[kind] + " ";
        String clause = number(clause());
        return switch (kind) {
            case 0 -> start + number(section()) + " " + note();
            case 1, 2 -> start + clause + " " + number(position()) + note();
            case 3 -> start + clause + " " + number(position());
            case 4 -> start + clause + " " + number(day());
            case 5, 6 -> start + clause + " " + number(clause());
            case 7 -> start + clause;
            case 8 -> "edit";
            default -> start + number(days());
        };
    }

    private String number(int value) {
        String digits = Integer.toString(Math.floorMod(value, 1000));
        return upTo(10) == 0 && digits.length() < 3 ? "0" + digits : digits;
    }

    private void spoil(StringBuilder script) {
        int at = upTo(script.length());
        switch (upTo(8)) {
            case 0 -> script.setCharAt(at, (char) (32 + upTo(95)));
            case 1 -> script.deleteCharAt(at);
            case 2 -> script.setLength(at);
            case 3 -> script.insert(at, script.charAt(upTo(script.length())));
            default -> {
            }
        }
    }
}
