import java.io.IOException;
import java.lang.reflect.InvocationTargetException;
import java.lang.reflect.Method;
import java.nio.file.Files;
import java.nio.file.Path;
import java.util.HashMap;
import java.util.Map;
import java.util.Set;
import java.util.TreeSet;
import java.util.regex.Matcher;
import java.util.regex.Pattern;

/** Runs the examples of README.md, and looks whether it tells of every call and constant. */
public final class EscapeOwnersReadme {
    private static final Path README = Path.of("README.md");
    private static final Pattern EXAMPLES = Pattern.compile("(?s)```java\n(.*?)```");
    private static final Pattern MAKING = Pattern.compile("EscapeOwners x = new EscapeOwners\\(\\);.*");
    private static final Pattern CALL = Pattern.compile(
        "(?:int (\\w+) = )?x\\.(\\w+)\\((.*?)\\);\\s*// (-?\\d+|NONE|BAD|FULL)(?::.*)?");

    private static int wrong = 0;
    private static int calls = 0;
    private static final Set<String> SHOWN = new TreeSet<>();

    private final Map<String, Integer> known = new HashMap<>();
    private EscapeOwners x;

    private EscapeOwnersReadme() {
        known.put("NONE", EscapeOwners.NONE);
        known.put("BAD", EscapeOwners.BAD);
        known.put("FULL", EscapeOwners.FULL);
    }

    public static void main(String[] args) throws IOException, ReflectiveOperationException {
        String text = Files.readString(README);
        Matcher examples = EXAMPLES.matcher(text);
        while (examples.find()) {
            new EscapeOwnersReadme().play(examples.group(1));
        }
        tellsAll(text);
        System.out.println(wrong == 0 ? calls + " calls of README.md are as it tells" : wrong + " faults in README.md");
        if (wrong != 0) {
            System.exit(1);
        }
    }

    private static void due(String what, boolean holds) {
        if (!holds) {
            wrong++;
            System.out.println("not so: " + what);
        }
    }

    private void play(String example) throws ReflectiveOperationException {
        for (String line : example.split("\n")) {
            Matcher call = CALL.matcher(line);
            if (MAKING.matcher(line).matches()) {
                x = new EscapeOwners();
            } else if (call.matches() && x != null) {
                int got = answer(call.group(2), call.group(3));
                due(line + " (it answered " + got + ")", got == number(call.group(4)));
                if (call.group(1) != null) {
                    known.put(call.group(1), got);
                }
            } else {
                due("a call with its answer: " + line, line.isBlank());
            }
        }
    }

    private int answer(String name, String arguments) throws IllegalAccessException, InvocationTargetException {
        String[] words = arguments.isBlank() ? new String[0] : arguments.split(", *");
        Object[] given = new Object[words.length];
        for (int i = 0; i < words.length; i++) {
            given[i] = number(words[i]);
        }
        for (Method m : EscapeOwners.class.getDeclaredMethods()) {
            if (m.getName().equals(name) && m.getParameterCount() == given.length) {
                calls++;
                SHOWN.add(name);
                return (Integer) m.invoke(x, given);
            }
        }
        throw new IllegalStateException("no such call: " + name);
    }

    private int number(String word) {
        return known.containsKey(word) ? known.get(word) : Integer.parseInt(word);
    }

    private static void tellsAll(String text) {
        String face = "EscapeOwners() clear() method() step(m, kind, a, b, c) call(m, to, x, y, z, r) undo() "
            + "told(step, what) all(what) points(m, x) field(site, f) place(s) result(m) of(site, what) "
            + "meet(m, x, k, y) reach(m, x) parameter(m, p, what) idle(step) calls(m, what)";
        for (String call : face.split("(?<=\\)) ")) {
            due("a row for " + call, text.contains("| `" + call + "` | "));
            String name = call.substring(0, call.indexOf('('));
            due("an example of " + name, name.equals("EscapeOwners") || SHOWN.contains(name));
        }
        due("NONE is -1", text.contains("| `NONE` | " + EscapeOwners.NONE + " |"));
        due("BAD is -2", text.contains("| `BAD` | " + EscapeOwners.BAD + " |"));
        due("FULL is -3", text.contains("| `FULL` | " + EscapeOwners.FULL + " |"));
        due("how the tests are run", text.contains("`.ci/run`"));
    }
}
