import java.io.IOException;
import java.lang.reflect.Constructor;
import java.lang.reflect.Field;
import java.lang.reflect.Method;
import java.lang.reflect.Modifier;
import java.nio.file.Files;
import java.nio.file.Path;
import java.util.ArrayList;
import java.util.HashSet;
import java.util.List;
import java.util.Map;
import java.util.Set;
import java.util.TreeMap;
import java.util.TreeSet;
import java.util.regex.Matcher;
import java.util.regex.Pattern;

/** The public face of the document, and those rules of LANGUAGE.md that can be seen from outside. */
public final class EscapeOwnersFace {
    private static final String SOURCE = "src/main/java/EscapeOwners.java";
    private static final Path DOCUMENT = Path.of("..", "shared", "DOC.md");
    private static final Pattern FACE = Pattern.compile("(?s)```java\n(.*?)```");
    private static final Pattern FACE_METHOD = Pattern.compile("public int (\\w+)\\((.*?)\\);");
    private static final Pattern METHOD = Pattern.compile(
        "(?:(?:public|private|static|final) )*(?:int|boolean|void) (\\w+)\\([^)]*\\) \\{");
    private static final int LINES = 60, DEPTH = 8;
    private static final String[] METHODS = {
        "clear 0", "method 0", "step 5", "call 6", "undo 0", "told 2", "all 1", "points 2", "field 2",
        "place 1", "result 1", "of 2", "meet 4", "reach 2", "parameter 3", "idle 1", "calls 2"
    };
    private static final String[] RULED_OUT = {
        "throw", "throws", "try", "catch", "synchronized", "assert", "import", "package", "new Thread",
        "Object", "lambda", "->", "::", "hashCode", "toString", "protected", "native", "volatile"
    };

    private static int wrong = 0;

    public static void main(String[] args) throws IOException {
        classItself();
        constants();
        constructors();
        methods();
        faceOfTheDocument();
        classesInside();
        staticFields();
        source();
        methodBodies();
        System.out.println(wrong == 0 ? "the face is as due" : wrong + " faults in the face");
        if (wrong != 0) {
            System.exit(1);
        }
    }

    private static void due(String what, boolean holds) {
        if (!holds) {
            wrong++;
            System.out.println("not so: " + what);
        }
    }

    private static void classItself() {
        int modifiers = EscapeOwners.class.getModifiers();
        due("the class is public and final", Modifier.isPublic(modifiers) && Modifier.isFinal(modifiers));
        due("the class has no class above it", EscapeOwners.class.getSuperclass() == Object.class);
        due("the class implements nothing", EscapeOwners.class.getInterfaces().length == 0);
    }

    private static void constants() {
        Set<String> seen = new TreeSet<>();
        for (Field f : EscapeOwners.class.getDeclaredFields()) {
            if (!Modifier.isPrivate(f.getModifiers())) {
                seen.add(f.getName());
                int all = Modifier.PUBLIC | Modifier.STATIC | Modifier.FINAL;
                due(f.getName() + " is a constant int", f.getModifiers() == all && f.getType() == int.class);
            }
        }
        due("the constants are BAD, FULL, NONE, not " + seen, seen.equals(Set.of("BAD", "FULL", "NONE")));
    }

    private static void constructors() {
        Constructor<?>[] all = EscapeOwners.class.getDeclaredConstructors();
        due("one constructor", all.length == 1);
        due("it is public, without parameters", Modifier.isPublic(all[0].getModifiers()) && all[0].getParameterCount() == 0);
    }

    private static void methods() {
        Set<String> wanted = new HashSet<>(Set.of(METHODS));
        Set<String> names = new HashSet<>();
        for (String one : METHODS) {
            names.add(one.split(" ")[0]);
        }
        for (Method m : EscapeOwners.class.getDeclaredMethods()) {
            if (Modifier.isPrivate(m.getModifiers())) {
                due("no private method is named " + m.getName(), !names.contains(m.getName()));
            } else {
                due(m + " is of the face", wanted.remove(m.getName() + " " + m.getParameterCount()));
                due(m + " takes and answers ints", isOfInts(m) && Modifier.isPublic(m.getModifiers()));
            }
        }
        due("no method lacks: " + wanted, wanted.isEmpty());
    }

    /** The list above is the document's own. */
    private static void faceOfTheDocument() throws IOException {
        Matcher face = FACE.matcher(Files.exists(DOCUMENT) ? Files.readString(DOCUMENT) : "");
        if (!face.find()) {
            System.out.println("the document is not there, so the face is not held against it");
            return;
        }
        Set<String> said = new TreeSet<>();
        Matcher methods = FACE_METHOD.matcher(face.group(1));
        while (methods.find()) {
            int count = methods.group(2).isEmpty() ? 0 : methods.group(2).split(",").length;
            said.add(methods.group(1) + " " + count);
        }
        due("the document's methods " + said, said.equals(Set.of(METHODS)));
        due("the document's constants", face.group(1).contains("public static final int NONE = -1, BAD = -2, FULL = -3;"));
        due("NONE, BAD, FULL are as the document says",
            EscapeOwners.NONE == -1 && EscapeOwners.BAD == -2 && EscapeOwners.FULL == -3);
    }

    private static boolean isOfInts(Method m) {
        for (Class<?> type : m.getParameterTypes()) {
            if (type != int.class) {
                return false;
            }
        }
        return m.getReturnType() == int.class;
    }

    private static void classesInside() {
        Class<?>[] inside = EscapeOwners.class.getDeclaredClasses();
        due("twelve classes at most", inside.length < 12);
        for (Class<?> one : inside) {
            due(one + " is private and static", Modifier.isPrivate(one.getModifiers()) && Modifier.isStatic(one.getModifiers()));
            due(one + " has some twenty fields at most", one.getDeclaredFields().length <= 20);
            for (Method m : one.getDeclaredMethods()) {
                due(m + " takes seven parameters at most", m.getParameterCount() <= 7);
            }
        }
    }

    private static void staticFields() {
        List<Class<?>> classes = new ArrayList<>(List.of(EscapeOwners.class.getDeclaredClasses()));
        classes.add(EscapeOwners.class);
        Set<Class<?>> constant = Set.of(int.class, long.class, boolean.class, char.class, String.class,
            int[].class, long[].class, char[].class, byte[].class);
        for (Class<?> one : classes) {
            for (Field f : one.getDeclaredFields()) {
                if (Modifier.isStatic(f.getModifiers())) {
                    due(f + " is a constant", Modifier.isFinal(f.getModifiers()) && constant.contains(f.getType()));
                }
            }
        }
    }

    private static String withoutComments(String text) {
        return text.replaceAll("(?s)/\\*.*?\\*/", "").replaceAll("//[^\n]*", "");
    }

    private static void source() throws IOException {
        String text = Files.readString(Path.of(SOURCE));
        String code = withoutComments(text);
        for (String word : RULED_OUT) {
            String edge = Character.isLetter(word.charAt(0)) ? "\\b" : "";
            Matcher found = Pattern.compile(edge + Pattern.quote(word) + edge).matcher(code);
            due("the class does without " + word, !found.find());
        }
        due("the source holds ASCII alone", text.chars().allMatch(c -> c < 128));
    }

    /** Methods are short, make no objects, never come back to themselves and go at most eight deep. */
    private static void methodBodies() throws IOException {
        Map<String, String> bodies = bodiesByName(withoutComments(Files.readString(Path.of(SOURCE))));
        due("all methods of the face are found", bodies.size() > METHODS.length);
        Map<String, Integer> depths = new TreeMap<>();
        for (Map.Entry<String, String> one : bodies.entrySet()) {
            due(one.getKey() + " has at most " + LINES + " lines", one.getValue().lines().count() <= LINES);
            due(one.getKey() + " makes no object", !Pattern.compile("\\bnew\\b").matcher(one.getValue()).find());
            int depth = depthOf(one.getKey(), bodies, depths, new ArrayList<>());
            due(one.getKey() + " goes " + depth + " deep", depth <= DEPTH);
        }
    }

    private static Map<String, String> bodiesByName(String code) {
        Map<String, String> bodies = new TreeMap<>();
        Matcher start = METHOD.matcher(code);
        while (start.find()) {
            int end = start.end();
            for (int open = 1; open > 0 && end < code.length(); end++) {
                open += code.charAt(end) == '{' ? 1 : code.charAt(end) == '}' ? -1 : 0;
            }
            String body = code.substring(start.end(), end);
            due("one method alone is named " + start.group(1), bodies.put(start.group(1), body) == null);
        }
        return bodies;
    }

    private static int depthOf(String name, Map<String, String> bodies, Map<String, Integer> depths, List<String> way) {
        if (depths.containsKey(name)) {
            return depths.get(name);
        }
        if (way.contains(name)) {
            due("no method comes back to itself: " + way + " " + name, false);
            return 0;
        }
        way.add(name);
        int deepest = 0;
        for (String other : bodies.keySet()) {
            if (Pattern.compile("\\b" + other + "\\(").matcher(bodies.get(name)).find()) {
                deepest = Math.max(deepest, depthOf(other, bodies, depths, way));
            }
        }
        way.remove(name);
        depths.put(name, deepest + 1);
        return deepest + 1;
    }
}
