import java.io.IOException;
import java.lang.reflect.Constructor;
import java.lang.reflect.Field;
import java.lang.reflect.Method;
import java.lang.reflect.Modifier;
import java.nio.file.Files;
import java.nio.file.Path;
import java.util.HashSet;
import java.util.Set;
import java.util.TreeSet;
import java.util.regex.Matcher;
import java.util.regex.Pattern;

/** The public face of the document, and those rules of LANGUAGE.md that can be seen from outside. */
public final class EscapeOwnersFace {
    private static final String SOURCE = "src/main/java/EscapeOwners.java";
    private static final String[] METHODS = {
        "clear 0", "method 0", "step 5", "call 6", "undo 0", "told 2", "all 1", "points 2", "field 2",
        "place 1", "result 1", "of 2", "meet 4", "reach 2", "parameter 3", "idle 1", "calls 2"
    };
    private static final String[] RULED_OUT = {
        "throw", "throws", "try", "catch", "synchronized", "assert", "import", "package", "new Thread",
        "Object", "lambda", "->", "::", "hashCode", "toString", "protected", "native", "volatile"
    };

    private static int wrong = 0;

    public static void main(String[] args) throws IOException {
        classItself();
        constants();
        constructors();
        methods();
        classesInside();
        source();
        System.out.println(wrong == 0 ? "the face is as due" : wrong + " faults in the face");
        if (wrong != 0) {
            System.exit(1);
        }
    }

    private static void due(String what, boolean holds) {
        if (!holds) {
            wrong++;
            System.out.println("not so: " + what);
        }
    }

    private static void classItself() {
        int modifiers = EscapeOwners.class.getModifiers();
        due("the class is public and final", Modifier.isPublic(modifiers) && Modifier.isFinal(modifiers));
        due("the class has no class above it", EscapeOwners.class.getSuperclass() == Object.class);
        due("the class implements nothing", EscapeOwners.class.getInterfaces().length == 0);
    }

    private static void constants() {
        Set<String> seen = new TreeSet<>();
        for (Field f : EscapeOwners.class.getDeclaredFields()) {
            if (!Modifier.isPrivate(f.getModifiers())) {
                seen.add(f.getName());
                int all = Modifier.PUBLIC | Modifier.STATIC | Modifier.FINAL;
                due(f.getName() + " is a constant int", f.getModifiers() == all && f.getType() == int.class);
            }
        }
        due("the constants are BAD, FULL, NONE, not " + seen, seen.equals(Set.of("BAD", "FULL", "NONE")));
    }

    private static void constructors() {
        Constructor<?>[] all = EscapeOwners.class.getDeclaredConstructors();
        due("one constructor", all.length == 1);
        due("it is public, without parameters", Modifier.isPublic(all[0].getModifiers()) && all[0].getParameterCount() == 0);
    }

    private static void methods() {
        Set<String> wanted = new HashSet<>(Set.of(METHODS));
        Set<String> names = new HashSet<>();
        for (String one : METHODS) {
            names.add(one.split(" ")[0]);
        }
        for (Method m : EscapeOwners.class.getDeclaredMethods()) {
            if (Modifier.isPrivate(m.getModifiers())) {
                due("no private method is named " + m.getName(), !names.contains(m.getName()));
            } else {
                due(m + " is of the face", wanted.remove(m.getName() + " " + m.getParameterCount()));
                due(m + " takes and answers ints", isOfInts(m) && Modifier.isPublic(m.getModifiers()));
            }
        }
        due("no method lacks: " + wanted, wanted.isEmpty());
    }

    private static boolean isOfInts(Method m) {
        for (Class<?> type : m.getParameterTypes()) {
            if (type != int.class) {
                return false;
            }
        }
        return m.getReturnType() == int.class;
    }

    private static void classesInside() {
        Class<?>[] inside = EscapeOwners.class.getDeclaredClasses();
        due("twelve classes at most", inside.length < 12);
        for (Class<?> one : inside) {
            due(one + " is private and static", Modifier.isPrivate(one.getModifiers()) && Modifier.isStatic(one.getModifiers()));
            due(one + " has some twenty fields at most", one.getDeclaredFields().length <= 20);
            for (Method m : one.getDeclaredMethods()) {
                due(m + " takes seven parameters at most", m.getParameterCount() <= 7);
            }
        }
    }

    private static void source() throws IOException {
        String text = Files.readString(Path.of(SOURCE));
        String code = text.replaceAll("(?s)/\\*.*?\\*/", "").replaceAll("//[^\n]*", "");
        for (String word : RULED_OUT) {
            String edge = Character.isLetter(word.charAt(0)) ? "\\b" : "";
            Matcher found = Pattern.compile(edge + Pattern.quote(word) + edge).matcher(code);
            due("the class does without " + word, !found.find());
        }
        due("the source holds ASCII alone", text.chars().allMatch(c -> c < 128));
    }
}
