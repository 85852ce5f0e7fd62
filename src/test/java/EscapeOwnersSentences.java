import java.io.IOException;
import java.lang.reflect.InvocationTargetException;
import java.lang.reflect.Method;
import java.nio.file.Files;
import java.nio.file.Path;
import java.util.ArrayList;
import java.util.List;

/**
 * The document from its first line to its last: every sentence is quoted word by word in its order,
 * and each that asks for something has its tests right below the quote. That no sentence is left out
 * is held against ../shared/DOC.md itself.
 */
public final class EscapeOwnersSentences {
    private static final Path DOCUMENT = Path.of("..", "shared", "DOC.md");
    private static final int NONE = EscapeOwners.NONE, BAD = EscapeOwners.BAD, FULL = EscapeOwners.FULL;
    private static final int ALL_SITES = 0xffff;
    private static final List<String> KINDS = List.of(
        "NEW", "COPY", "LOAD", "STORE", "TAKE", "PUT", "CALL", "GIVE", "START", "HAND", "LOCK");
    private static final int CALL = 6;
    private static final int DOES_NOT_COUNT = 99;

    private static final List<String> QUOTES = new ArrayList<>();
    private static int wrong = 0;

    public static void main(String[] args) throws IOException {
        numbersAndKinds();
        whatFollows();
        howItAnswers();
        promises();
        notPromised();
        everySentenceIsQuoted();
        System.out.println(wrong == 0 ? "all answers are as due" : wrong + " answers are not as due");
        if (wrong != 0) {
            System.exit(1);
        }
    }

    private static void numbersAndKinds() {
        whatItIs();
        namesAndSteps();
        fieldsAndPlaces();
        namesAreOfTheirMethod();
        kindNew();
        kindCopy();
        kindLoad();
        kindStore();
        kindTake();
        kindPut();
        kindCall();
        kindGive();
        kindsThatLetGo();
    }

    private static void whatFollows() {
        live();
        leastSets();
        liveAlone();
        shared();
        out();
        stays();
        holders();
        owned();
        fixed();
        locks();
        marked();
        kept();
        fresh();
        pure();
    }

    private static void howItAnswers() {
        refusalsInOrder();
        refusedChangesNothing();
        setsAreNumbers();
    }

    private static void promises() {
        promiseOfNewObject();
        promiseOfClear();
        promiseOfMethod();
        promiseOfStep();
        promiseOfCall();
        promiseOfUndo();
        promiseOfTold();
        promiseOfAll();
        promiseOfPoints();
        promiseOfField();
        promiseOfPlace();
        promiseOfResult();
        promiseOfOf();
        promiseOfMeet();
        promiseOfReach();
        promiseOfParameter();
        promiseOfIdle();
        promiseOfCalls();
    }

    // The tests below tell STEPS as texts ("0 STORE 3 1 4": METHOD, KIND, what it needs; '-' is NONE,
    // what is left out of a CALL is NONE) and calls as texts, too.

    private static void says(String quote) {
        QUOTES.add(quote);
    }

    private static void fault(String text) {
        wrong++;
        System.out.println("\"" + QUOTES.get(QUOTES.size() - 1) + "\": " + text);
    }

    private static void due(EscapeOwners x, String call, int want) {
        int got = ask(x, call);
        if (got != want) {
            fault(call + " answered " + got + ", due is " + want);
        }
    }

    private static int ask(EscapeOwners x, String call) {
        int open = call.indexOf('(');
        String inside = call.substring(open + 1, call.length() - 1).trim();
        String[] numbers = inside.isEmpty() ? new String[0] : inside.split(", *");
        Object[] given = new Object[numbers.length];
        for (int i = 0; i < numbers.length; i++) {
            given[i] = Integer.valueOf(numbers[i]);
        }
        try {
            for (Method m : EscapeOwners.class.getMethods()) {
                if (m.getName().equals(call.substring(0, open)) && m.getDeclaringClass() == EscapeOwners.class) {
                    return (Integer) m.invoke(x, given);
                }
            }
        } catch (IllegalAccessException | InvocationTargetException e) {
            throw new IllegalStateException(call, e);
        }
        throw new IllegalStateException("no such call: " + call);
    }

    /** A new object with so many METHODS, METHOD 0 included, to which the STEPS are told. */
    private static EscapeOwners given(int methods, String... steps) {
        EscapeOwners x = new EscapeOwners();
        for (int i = 1; i < methods; i++) {
            due(x, "method()", i);
        }
        return and(x, steps);
    }

    private static EscapeOwners and(EscapeOwners x, String... steps) {
        for (String step : steps) {
            int number = x.all(1);
            due(x, asCall(step), number);
        }
        return x;
    }

    private static String asCall(String step) {
        String[] words = step.split(" ");
        int kind = KINDS.indexOf(words[1]);
        int needs = kind == CALL ? 5 : 3;
        StringBuilder call = new StringBuilder(kind == CALL ? "call(" : "step(").append(words[0]);
        if (kind != CALL) {
            call.append(", ").append(kind);
        }
        for (int i = 0; i < needs; i++) {
            int rest = kind == CALL ? NONE : DOES_NOT_COUNT;
            String word = i + 2 < words.length ? words[i + 2] : String.valueOf(rest);
            call.append(", ").append(word.equals("-") ? String.valueOf(NONE) : word);
        }
        return call.append(")").toString();
    }

    /** As many NEW as there are SITES, all in METHOD 0. */
    private static EscapeOwners withAllSites(int methods) {
        EscapeOwners x = given(methods);
        for (int i = 0; i < 16; i++) {
            and(x, "0 NEW " + i % 8);
        }
        return x;
    }

    /** SITES 0 .. 15, each but the last with the next one in its FIELD 0; NAME 1 of METHOD 0 is the first. */
    private static EscapeOwners withChain() {
        EscapeOwners x = given(3, "0 CALL 1 - - - 7", "1 CALL 2 - - - 7", "1 GIVE 1", "2 GIVE 1");
        for (int i = 0; i < 16; i++) {
            and(x, i / 6 + " NEW " + (i % 6 + 1));
        }
        for (int i = 0; i < 15; i++) {
            and(x, i / 6 + " STORE " + (i % 6 + 1) + " 0 " + (i % 6 + 2));
        }
        return x;
    }

    private static void whatItIs() {
        // A title: each of its parts is asked for below.
        says("Who may hold what is made: small methods whose steps make, copy, keep in fields and in "
            + "places for all, call, lock, start threads; the least sets of what each name may point to; "
            + "what gets out of its method, what other threads may see, what stays, what one alone holds, "
            + "what is never written later; parameters that are kept, results that are fresh, methods that "
            + "change nothing of others; locks that do not matter.");
        // This sentence goes on in the first line of the terms.
        says("======== 1 METHODS 0 ..");
        says("An object is used for at most 512 calls after it has been made; what later calls answer is free.");
        EscapeOwners x = new EscapeOwners();
        int calls = 0;
        for (int i = 0; i < 255; i++) {
            x.step(0, KINDS.indexOf("NEW"), 3, 0, 0);
            x.undo();
            calls += 2;
        }
        x.step(0, KINDS.indexOf("NEW"), 3, 0, 0);
        due(x, "points(0, 3)", 1);
        if (calls + 2 != 512) {
            fault("the last call was to be the 512th");
        }
    }

    private static void namesAndSteps() {
        says("7 each have NAMES 0 .. 7, of which 0 .. 2 are PARAMETERS, and STEPS, 64 in all, numbered as they come.");
        for (int m = 0; m < 8; m++) {
            for (int name = 0; name < 8; name++) {
                namesAreEachForItself(m, name);
            }
        }
        EscapeOwners x = given(2, "0 NEW 3", "0 CALL 1 3 3 3");
        for (int name = 0; name < 8; name++) {
            due(x, "points(1, " + name + ")", name <= 2 ? 1 : 0);
            due(x, "parameter(1, " + name + ", 2)", name <= 2 ? 1 : BAD);
        }
        x = given(8);
        for (int i = 0; i < 64; i++) {
            due(x, "step(" + i % 8 + ", 1, 3, 4, 0)", i);
        }
        due(x, "step(0, 1, 3, 4, 0)", FULL);
        due(x, "call(0, 1, 3, 4, 5, 6)", FULL);
        // The last STEP is as good as any other.
        due(x, "undo()", 63);
        and(x, "7 CALL 1 2 3 4 5");
        int[] lastCall = {7, CALL, NONE, 1, 2, 3, 4, 5};
        for (int what = 0; what < 8; what++) {
            due(x, "told(63, " + what + ")", lastCall[what]);
        }
        due(x, "undo()", 63);
        and(x, "0 NEW 6");
        due(x, "points(0, 6)", 1);
        due(x, "of(0, 1)", 63);
    }

    private static void fieldsAndPlaces() {
        says("FIELDS 0 .. 3, PLACES 0 .. 3 (for all).");
        for (int number = -1; number <= 4; number++) {
            boolean within = number >= 0 && number < 4;
            due(given(1), "place(" + number + ")", within ? 0 : BAD);
            due(given(1, "0 NEW 3"), "field(0, " + number + ")", within ? 0 : BAD);
            due(given(1), "step(0, 2, 3, 4, " + number + ")", within ? 0 : BAD);
            due(given(1), "step(0, 3, 3, " + number + ", 4)", within ? 0 : BAD);
            due(given(1), "step(0, 4, 3, " + number + ", 0)", within ? 0 : BAD);
            due(given(1), "step(0, 5, " + number + ", 3, 0)", within ? 0 : BAD);
        }
        EscapeOwners x = given(3, "0 CALL 1", "0 CALL 2", "1 NEW 3", "1 PUT 3 3", "2 TAKE 4 3");
        due(x, "points(2, 4)", 1);
        for (int f = 0; f < 4; f++) {
            x = and(withAllSites(1), "0 STORE 7 " + f + " 6", "0 LOAD 0 7 " + f);
            for (int g = 0; g < 4; g++) {
                due(x, "field(15, " + g + ")", f == g ? 1 << 6 | 1 << 14 : 0);
                due(x, "field(14, " + g + ")", 0);
            }
            due(x, "points(0, 0)", 1 | 1 << 8 | 1 << 6 | 1 << 14);
        }
    }

    private static void namesAreOfTheirMethod() {
        says("STEPS, by KIND, of a METHOD (x, y, z NAMES of it):");
        EscapeOwners x = given(2, "0 CALL 1", "0 NEW 3", "1 NEW 4", "1 COPY 5 3", "0 COPY 6 4");
        due(x, "points(1, 3)", 0);
        due(x, "points(1, 5)", 0);
        due(x, "points(0, 4)", 0);
        due(x, "points(0, 6)", 0);
    }

    private static void namesAreEachForItself(int m, int name) {
        EscapeOwners x = given(8, "0 CALL " + m, m + " NEW " + name);
        for (int k = 0; k < 8; k++) {
            for (int other = 0; other < 8; other++) {
                due(x, "points(" + k + ", " + other + ")", k == m && other == name ? 1 : 0);
            }
        }
        due(x, "points(" + m + ", 8)", BAD);
        due(x, "points(8, " + name + ")", BAD);
    }

    private static void kindNew() {
        says("0 NEW x: x points to the SITE that this STEP is (16 SITES at most, numbered as they come).");
        EscapeOwners x = given(2, "0 COPY 6 7", "1 NEW 3", "0 NEW 3", "0 NEW 3", "0 COPY 6 7", "0 NEW 5");
        due(x, "points(0, 3)", 2 | 4);
        due(x, "points(0, 5)", 8);
        due(x, "told(1, 2)", 0);
        due(x, "told(2, 2)", 1);
        due(x, "told(5, 2)", 3);
        due(x, "of(3, 1)", 5);
        x = withAllSites(1);
        due(x, "told(15, 2)", 15);
        due(x, "of(15, 1)", 15);
        due(x, "points(0, 7)", 1 << 7 | 1 << 15);
        due(x, "step(0, 0, 3, 0, 0)", FULL);
        due(x, "step(0, 1, 3, 4, 0)", 16);
    }

    private static void kindCopy() {
        says("1 COPY x, y: x to what y does.");
        EscapeOwners x = given(1, "0 NEW 3", "0 COPY 4 3", "0 NEW 4");
        due(x, "points(0, 4)", 1 | 2);
        due(x, "points(0, 3)", 1);
        due(x, "points(0, 5)", 0);
    }

    private static void kindLoad() {
        says("2 LOAD x, y, f: x to what FIELD f of what y points to does.");
        EscapeOwners x = given(1, "0 NEW 3", "0 NEW 4", "0 NEW 5", "0 STORE 3 1 4", "0 STORE 3 2 5",
            "0 LOAD 6 3 1", "0 LOAD 7 3 3", "0 LOAD 0 4 1");
        due(x, "points(0, 6)", 2);
        due(x, "points(0, 7)", 0);
        due(x, "points(0, 0)", 0);
        and(x, "0 NEW 2", "0 STORE 2 1 5", "0 COPY 3 2");
        due(x, "points(0, 6)", 2 | 4);
    }

    private static void kindStore() {
        says("3 STORE x, f, y: FIELD f of what x points to, to what y does.");
        EscapeOwners x = given(1, "0 NEW 3", "0 NEW 3", "0 NEW 4", "0 NEW 5", "0 STORE 3 2 4");
        due(x, "field(0, 2)", 4);
        due(x, "field(1, 2)", 4);
        due(x, "field(2, 2)", 0);
        due(x, "field(0, 1)", 0);
        due(x, "field(0, 3)", 0);
        and(x, "0 STORE 3 2 5");
        due(x, "field(0, 2)", 4 | 8);
        due(x, "points(0, 3)", 1 | 2);
    }

    private static void kindTake() {
        says("4 TAKE x, s: x to what PLACE s does.");
        EscapeOwners x = given(1, "0 NEW 3", "0 PUT 1 3", "0 TAKE 4 1", "0 TAKE 5 2");
        due(x, "points(0, 4)", 1);
        due(x, "points(0, 5)", 0);
        due(x, "points(0, 1)", 0);
    }

    private static void kindPut() {
        says("5 PUT s, x: PLACE s to what x does.");
        EscapeOwners x = given(1, "0 NEW 3", "0 NEW 4", "0 PUT 3 3", "0 PUT 3 4", "0 PUT 0 4");
        due(x, "place(0)", 2);
        due(x, "place(1)", 0);
        due(x, "place(2)", 0);
        due(x, "place(3)", 1 | 2);
    }

    private static void kindCall() {
        says("6 CALL m, x, y, z, r: METHOD m's PARAMETERS 0, 1, 2 to what x, y, z do (NONE: not told), "
            + "NAME r (NONE: none) to what m's RESULT does.");
        EscapeOwners x = given(3, "0 NEW 3", "0 NEW 4", "0 NEW 5", "0 CALL 2 3 4 5 6", "2 NEW 7", "2 GIVE 7");
        due(x, "points(2, 0)", 1);
        due(x, "points(2, 1)", 2);
        due(x, "points(2, 2)", 4);
        due(x, "points(0, 6)", 8);
        due(x, "points(1, 0)", 0);
        due(x, "points(0, 0)", 0);
        String[] withOneArgument = {"0 CALL 1 3 - - -", "0 CALL 1 - 3 - -", "0 CALL 1 - - 3 -"};
        for (int p = 0; p < 3; p++) {
            x = given(2, "0 NEW 3", withOneArgument[p], "1 GIVE " + p);
            for (int name = 0; name < 8; name++) {
                due(x, "points(1, " + name + ")", name == p ? 1 : 0);
                due(x, "points(0, " + name + ")", name == 3 ? 1 : 0);
            }
        }
        due(given(2, "0 CALL 1 - - - 0", "1 NEW 4", "1 GIVE 4"), "points(0, 0)", 1);
        // A CALL without r in METHOD 1 writes no NAME, of its own or of another METHOD.
        x = given(3, "0 CALL 1", "1 CALL 2", "2 NEW 4", "2 GIVE 4");
        for (int name = 0; name < 8; name++) {
            due(x, "points(0, " + name + ")", 0);
            due(x, "points(1, " + name + ")", 0);
        }
    }

    private static void kindGive() {
        says("7 GIVE x: the METHOD'S RESULT to what x does.");
        EscapeOwners x = given(2, "0 NEW 3", "0 NEW 4", "0 GIVE 3", "0 CALL 1 4");
        due(x, "result(0)", 1);
        due(x, "result(1)", 0);
        and(x, "0 GIVE 4");
        due(x, "result(0)", 1 | 2);
    }

    private static void kindsThatLetGo() {
        says("8 START x: a thread is started with what x points to.");
        letsGo("START");
        says("9 HAND x: code that is not known gets it.");
        letsGo("HAND");
        says("10 LOCK x.");
        EscapeOwners x = given(1, "0 NEW 3", "0 NEW 4", "0 LOCK 3");
        due(x, "idle(2)", 1);
        due(x, "all(5)", 0);
        due(x, "all(6)", 0);
        due(x, "points(0, 3)", 1);
    }

    private static void letsGo(String kind) {
        EscapeOwners x = given(1, "0 NEW 3", "0 NEW 4", "0 " + kind + " 3");
        due(x, "all(5)", 1);
        due(x, "place(0)", 0);
        due(x, "field(0, 0)", 0);
        due(x, "field(1, 0)", 0);
        due(x, "result(0)", 0);
        due(x, "points(0, 3)", 1);
        due(x, "points(0, 4)", 2);
    }

    private static void live() {
        says("LIVE are METHOD 0 and what STEPS of LIVE METHODS CALL.");
        due(given(8), "all(3)", 1);
        EscapeOwners x = given(6, "2 CALL 3", "1 CALL 2", "4 CALL 0", "4 CALL 5", "5 CALL 4");
        due(x, "all(3)", 1);
        and(x, "0 CALL 1");
        due(x, "all(3)", 1 | 2 | 4 | 8);
        and(x, "3 CALL 5");
        due(x, "all(3)", 63);
        due(given(8, "1 CALL 7", "2 CALL 1", "3 CALL 2", "4 CALL 3", "5 CALL 4", "6 CALL 5", "0 CALL 6"), "all(3)", 255);
        due(given(8, "6 CALL 1", "7 CALL 6", "0 CALL 7"), "all(3)", 1 | 2 | 1 << 6 | 1 << 7);
    }

    private static void leastSets() {
        says("All POINTS are the least sets of SITES so that all STEPS of LIVE METHODS are as told "
            + "(in whatever order they are done; all CALLS of a METHOD are as one).");
        EscapeOwners x = given(2, "0 PUT 0 6", "0 CALL 1 5 - - 6", "1 GIVE 3", "1 COPY 3 0", "0 LOAD 5 4 0",
            "0 STORE 4 0 3", "0 COPY 4 7", "0 TAKE 7 1", "0 PUT 1 2", "0 NEW 3", "0 NEW 2");
        due(x, "place(0)", 1);
        due(x, "points(0, 4)", 2);
        EscapeOwners forward = given(2, "0 NEW 3", "0 NEW 2", "0 PUT 1 2", "0 TAKE 7 1", "0 COPY 4 7",
            "0 STORE 4 0 3", "0 LOAD 5 4 0", "1 COPY 3 0", "1 GIVE 3", "0 CALL 1 5 - - 6", "0 PUT 0 6");
        sameSets(x, forward);
        due(given(1, "0 START 3", "0 NEW 3"), "all(5)", 1);
        due(given(1, "0 HAND 3", "0 NEW 3"), "all(5)", 1);
        due(given(1, "0 LOCK 3", "0 NEW 3"), "all(11)", 1);
        due(given(1, "0 PUT 0 3", "0 NEW 3"), "all(5)", 1);
        due(given(2, "1 STORE 0 0 0", "0 NEW 3", "0 CALL 1 3"), "of(0, 6)", 2);
        due(given(2, "1 HAND 0", "0 NEW 3", "0 CALL 1 3"), "all(9)", 0);
        // Only the PARAMETER grows when the steps are done once more.
        due(given(3, "1 CALL 2 0", "0 CALL 1 4", "0 COPY 4 3", "0 NEW 3"), "points(2, 0)", 1);
        x = given(2, "0 COPY 3 4", "0 COPY 4 3", "0 LOAD 5 5 0", "0 STORE 5 0 5", "0 TAKE 6 0", "0 PUT 0 6",
            "0 CALL 1 7 - - 7", "1 GIVE 0", "0 NEW 2");
        for (int name = 0; name < 8; name++) {
            due(x, "points(0, " + name + ")", name == 2 ? 1 : 0);
            due(x, "points(1, " + name + ")", 0);
        }
        due(x, "place(0)", 0);
        due(x, "field(0, 0)", 0);
        x = given(3, "0 NEW 3", "0 NEW 4", "0 CALL 1 3 - - 5", "0 CALL 1 4 - - 6", "1 GIVE 0", "0 CALL 2 - 4", "2 CALL 1 - - - 7");
        due(x, "points(1, 0)", 1 | 2);
        due(x, "points(0, 5)", 1 | 2);
        due(x, "points(0, 6)", 1 | 2);
        due(x, "points(2, 7)", 1 | 2);
        due(x, "points(2, 1)", 2);
        x = given(2, "0 NEW 3", "0 PUT 0 3", "1 TAKE 4 0", "1 PUT 1 4", "1 STORE 4 0 4", "1 GIVE 4", "1 CALL 0 4");
        due(x, "points(1, 4)", 0);
        due(x, "points(0, 0)", 0);
        due(x, "place(1)", 0);
        due(x, "field(0, 0)", 0);
        due(x, "result(1)", 0);
    }

    private static void sameSets(EscapeOwners x, EscapeOwners other) {
        for (int m = 0; m < 2; m++) {
            due(x, "result(" + m + ")", other.result(m));
            for (int name = 0; name < 8; name++) {
                due(x, "points(" + m + ", " + name + ")", other.points(m, name));
            }
        }
        for (int number = 0; number < 4; number++) {
            due(x, "place(" + number + ")", other.place(number));
            due(x, "field(0, " + number + ")", other.field(0, number));
            due(x, "field(1, " + number + ")", other.field(1, number));
        }
    }

    private static void liveAlone() {
        says("SITES are LIVE, if their STEP is of a LIVE METHOD; all that follows is of LIVE METHODS, SITES "
            + "and STEPS alone.");
        EscapeOwners x = given(3, "1 NEW 3", "1 STORE 3 0 3", "1 START 3", "1 LOCK 3", "1 CALL 2 3",
            "2 STORE 0 1 0", "2 NEW 4", "2 GIVE 4", "0 NEW 5");
        String[] whats = {"4", "5", "6", "7", "8", "9", "10", "11", "12"};
        int[] notYet = {4, 0, 0, 0, 4, 1, 0, 0, NONE};
        for (int i = 0; i < whats.length; i++) {
            due(x, "all(" + whats[i] + ")", notYet[i]);
        }
        int[] ofNotLive = {NONE, 0, 0, 0, 0};
        for (int what = 2; what < 7; what++) {
            due(x, "of(0, " + what + ")", ofNotLive[what - 2]);
        }
        due(x, "parameter(1, 0, 2)", NONE);
        due(x, "idle(3)", NONE);
        due(x, "calls(1, 0)", 0);
        due(x, "calls(1, 1)", 0);
        due(x, "calls(2, 2)", 0);
        due(given(8, "7 CALL 0"), "calls(7, 0)", 0);
        due(given(8, "7 CALL 0"), "calls(0, 2)", 0);
        and(x, "0 CALL 1");
        int[] then = {7, 1, 1 | 2, 0, 2 | 4, 0, 4, 0, 0};
        for (int i = 0; i < whats.length; i++) {
            due(x, "all(" + whats[i] + ")", then[i]);
        }
        int[] ofLive = {0, 2, 1, 2 | 4, 2 | 4};
        for (int what = 2; what < 7; what++) {
            due(x, "of(0, " + what + ")", ofLive[what - 2]);
        }
        due(x, "parameter(1, 0, 2)", 1);
        due(x, "idle(3)", 0);
        due(x, "calls(1, 0)", 4);
        due(x, "calls(0, 1)", 2 | 4);
        due(x, "calls(2, 2)", 2);
    }

    private static void shared() {
        says("======== 2 SHARED is a SITE, of LEVEL 0 if a PLACE points to it, or a STEP STARTS or HANDS "
            + "what points to it; else of LEVEL l, if a FIELD of a SHARED SITE points to it, l being 1 more "
            + "than the least LEVEL of such.");
        String[] ways = {"0 PUT 0 3", "0 PUT 3 3", "0 START 3", "0 HAND 3"};
        for (String way : ways) {
            EscapeOwners x = given(1, "0 NEW 3", "0 NEW 4", "0 NEW 5", "0 NEW 6", "0 STORE 3 0 4", "0 STORE 4 3 5",
                "0 STORE 6 0 3");
            due(x, "all(5)", 0);
            and(x, way);
            due(x, "all(5)", 1 | 2 | 4);
            levels(x, 0, 1, 2, NONE);
            and(x, "0 STORE 3 1 5");
            levels(x, 0, 1, 1, NONE);
            and(x, "0 HAND 5");
            levels(x, 0, 1, 0, NONE);
            and(x, "0 STORE 5 2 6");
            levels(x, 0, 1, 0, 1);
            due(x, "all(5)", 15);
        }
        EscapeOwners x = given(2, "0 NEW 3", "0 GIVE 3", "0 CALL 1 3", "1 LOCK 0", "1 STORE 0 0 0");
        due(x, "all(5)", 0);
        and(x, "1 COPY 5 0", "1 HAND 5");
        due(x, "all(5)", 1);
        levels(x, 0);
        x = withChain();
        due(x, "all(12)", NONE);
        and(x, "0 HAND 1");
        levels(x, 0, 1, 2, 3, 4, 5, 6, 7, 8, 9, 10, 11, 12, 13, 14, 15);
        due(x, "all(5)", ALL_SITES);
        due(x, "all(12)", 15);
        and(x, "2 STORE 4 3 4", "2 PUT 0 4");
        levels(x, 0, 1, 2, 3, 4, 5, 6, 7, 8, 9, 10, 11, 12, 13, 14, 0);
        due(x, "all(12)", 14);
    }

    private static void levels(EscapeOwners x, int... wants) {
        for (int site = 0; site < wants.length; site++) {
            due(x, "of(" + site + ", 2)", wants[site]);
        }
    }

    private static void out() {
        says("OUT of its METHOD is a SITE, if it is SHARED, or its METHOD'S RESULT or a PARAMETER of it "
            + "points to it, or a FIELD of a SITE that is OUT of that same METHOD, or that a PARAMETER or the "
            + "RESULT of it points to, does (and so on by FIELDS, of whatever SITES).");
        due(given(2, "0 CALL 1", "1 NEW 3", "1 NEW 4", "1 START 3"), "all(6)", 1);
        due(given(2, "0 CALL 1", "1 NEW 3", "1 NEW 4", "1 STORE 4 0 3", "1 PUT 2 4"), "all(6)", 1 | 2);
        due(given(2, "0 CALL 1", "1 NEW 3", "1 NEW 4", "1 GIVE 3"), "all(6)", 1);
        due(given(1, "0 NEW 3", "0 NEW 4", "0 GIVE 4"), "all(6)", 2);
        for (int p = 0; p < 8; p++) {
            due(given(1, "0 NEW " + p), "all(6)", p <= 2 ? 1 : 0);
        }
        due(given(2, "0 CALL 1", "1 CALL 1 - 4 -", "1 NEW 4", "1 NEW 5"), "all(6)", 1);
        // SITE 0 is the RESULT, 1 and 2 follow by FIELDS, 3 holds it, but nothing comes to 3.
        due(given(2, "0 CALL 1", "1 NEW 3", "1 NEW 4", "1 NEW 5", "1 NEW 6", "1 GIVE 3", "1 STORE 3 0 4",
            "1 STORE 4 3 5", "1 STORE 6 0 3"), "all(6)", 1 | 2 | 4);
        due(given(2, "0 NEW 3", "0 CALL 1 - - 3", "1 NEW 4", "1 STORE 2 1 4", "1 NEW 5"), "all(6)", 2);
        // A RESULT that another METHOD made.
        EscapeOwners x = given(3, "0 CALL 1", "1 CALL 2 - - - 3", "2 NEW 4", "2 GIVE 4", "1 NEW 5", "1 STORE 3 2 5");
        due(x, "all(6)", 1);
        due(and(x, "1 GIVE 3"), "all(6)", 1 | 2);
        // METHOD 1's SITE 2 in METHOD 2's SITE 1, and that in METHOD 0's SITE 0, which METHOD 1 was given.
        x = given(3, "0 NEW 3", "0 CALL 1 - 3", "1 CALL 2 - - - 5", "2 NEW 3", "2 GIVE 3", "1 NEW 4", "1 STORE 5 3 4");
        due(x, "all(6)", 2);
        due(and(x, "1 STORE 1 2 5"), "all(6)", 2 | 4);
        // What another METHOD is given or GIVES does not get out of its own.
        due(given(2, "0 NEW 3", "0 NEW 4", "0 STORE 3 0 4", "0 CALL 1 3 - - 5", "1 GIVE 0"), "all(6)", 0);
    }

    private static void stays() {
        says("What is not OUT STAYS.");
        EscapeOwners x = given(2, "0 CALL 1 - - - 3", "1 NEW 3", "1 NEW 4", "1 GIVE 3", "1 STORE 4 0 3", "1 LOCK 4");
        due(x, "all(4)", 1 | 2);
        due(x, "all(6)", 1);
        due(x, "of(0, 0)", 1);
    }

    private static void holders() {
        says("HOLDERS of a SITE: pairs of a SITE and a FIELD that points to it.");
        EscapeOwners x = given(1, "0 NEW 3", "0 NEW 4", "0 NEW 5", "0 PUT 0 4", "0 GIVE 4", "0 COPY 6 4");
        due(x, "of(1, 3)", 0);
        and(x, "0 STORE 3 0 4", "0 STORE 3 3 4", "0 STORE 4 1 4", "0 STORE 4 1 4");
        due(x, "of(1, 3)", 3);
        due(x, "of(1, 4)", 1 | 2);
        due(x, "of(0, 3)", 0);
        due(x, "of(2, 3)", 0);
    }

    private static void owned() {
        says("OWNED is one with just one HOLDER, to which no PLACE points.");
        EscapeOwners x = given(1, "0 NEW 3", "0 NEW 4", "0 NEW 5");
        due(x, "all(7)", 0);
        and(x, "0 STORE 3 0 4");
        due(x, "all(7)", 2);
        and(x, "0 STORE 3 0 4", "0 COPY 6 4", "0 GIVE 4", "0 START 4", "0 PUT 1 3");
        due(x, "all(7)", 2);
        and(x, "0 STORE 5 0 5");
        due(x, "all(7)", 2 | 4);
        and(x, "0 STORE 3 1 4");
        due(x, "all(7)", 4);
        and(x, "0 PUT 3 5");
        due(x, "all(7)", 0);
        due(given(1, "0 NEW 3", "0 NEW 4", "0 STORE 4 3 3"), "all(7)", 1);
        due(withChain(), "all(7)", ALL_SITES & ~1);
        due(withChain(), "of(15, 4)", 1 << 14);
    }

    private static void fixed() {
        says("FIXED is a SITE, if no STORE of another METHOD than its own is to what may be it.");
        EscapeOwners x = given(3, "0 NEW 3", "0 NEW 4", "0 STORE 3 0 4", "0 CALL 1 3 4", "1 LOAD 5 0 0", "1 STORE 6 0 1", "1 LOCK 0");
        due(x, "all(8)", 1 | 2);
        and(x, "1 STORE 0 2 7");
        due(x, "all(8)", 2);
        and(x, "1 NEW 6");
        due(x, "all(8)", 2 | 4);
        and(x, "1 CALL 2 5", "2 STORE 0 1 0");
        due(x, "all(8)", 4);
    }

    private static void locks() {
        says("A LOCK is IDLE, if its NAME points to something, and to nothing SHARED.");
        EscapeOwners x = given(1, "0 LOCK 3");
        due(x, "idle(0)", 0);
        and(x, "0 NEW 3", "0 GIVE 3");
        due(x, "idle(0)", 1);
        and(x, "0 NEW 4", "0 STORE 4 0 3", "0 STORE 3 0 4");
        due(x, "idle(0)", 1);
        and(x, "0 NEW 5", "0 HAND 5");
        due(x, "idle(0)", 1);
        and(x, "0 COPY 3 5");
        due(x, "idle(0)", 0);
        due(given(1, "0 NEW 3", "0 NEW 4", "0 STORE 4 0 3", "0 START 4", "0 LOCK 3"), "idle(4)", 0);
    }

    private static void marked() {
        says("MARKED by a PARAMETER p of a METHOD m are NAMES (of METHODS): p of m; x by COPY x, y of a "
            + "MARKED y; PARAMETERS of what is CALLED with MARKED NAMES; r of a CALL whose METHOD GIVES a "
            + "MARKED NAME.");
        EscapeOwners x = given(3);
        due(x, "parameter(0, 0, 2)", 1);
        and(x, "0 COPY 4 3", "0 COPY 3 1", "0 LOAD 5 1 0", "0 STORE 6 0 1", "0 COPY 1 7");
        due(x, "parameter(0, 1, 2)", 3);
        due(x, "parameter(0, 0, 2)", 1);
        due(x, "parameter(0, 2, 2)", 1);
        and(x, "0 CALL 1 0 4 - 6");
        due(x, "parameter(0, 1, 2)", 4);
        due(x, "parameter(0, 0, 2)", 2);
        due(x, "parameter(0, 2, 2)", 1);
        and(x, "1 COPY 7 1", "1 GIVE 7");
        due(x, "parameter(0, 1, 2)", 6);
        due(x, "parameter(0, 0, 2)", 2);
        // METHOD 1's own PARAMETER marks the r of its caller; a CALL without r has none to mark.
        due(x, "parameter(1, 1, 2)", 3);
        and(x, "0 CALL 1");
        due(x, "parameter(1, 1, 2)", 3);
        and(x, "2 CALL 1 - - - 3", "0 CALL 2");
        due(x, "parameter(1, 1, 2)", 4);
        // A RESULT of a METHOD that GIVES nothing that is MARKED.
        due(given(2, "0 CALL 1 0 - - 5", "1 GIVE 3"), "parameter(0, 0, 2)", 2);
        // All NAMES that a PARAMETER can mark.
        x = given(1);
        for (int name = 1; name < 8; name++) {
            and(x, "0 COPY " + name + " " + (name - 1));
            due(x, "parameter(0, 0, 2)", name + 1);
        }
        x = given(1);
        for (int name = 7; name > 0; name--) {
            and(x, "0 COPY " + name + " " + (name - 1));
        }
        due(x, "parameter(0, 0, 2)", 8);
        due(given(4, "3 COPY 4 0", "2 CALL 3 0", "1 CALL 2 0", "0 CALL 1 0"), "parameter(0, 0, 2)", 5);
        due(given(2, "0 COPY 6 5", "0 CALL 1 0 - - 5", "1 GIVE 0"), "parameter(0, 0, 2)", 4);
        for (int m = 1; m < 8; m++) {
            x = given(8, m + " GIVE 7", "0 CALL " + m + " - 2 - 6", m + " COPY 7 1");
            due(x, "parameter(" + m + ", 1, 2)", 3);
            due(x, "parameter(0, 2, 2)", 4);
            due(x, "parameter(" + m + ", 0, 2)", 1);
        }
    }

    private static void kept() {
        says("p is KEPT, if one that is MARKED is y of a STORE, x of a PUT, START, HAND; BACK, if m GIVES "
            + "one that is MARKED.");
        String[] keeping = {"STORE 3 0 5", "PUT 3 5", "START 5", "HAND 5"};
        for (String step : keeping) {
            due(given(1, "0 COPY 5 2", "0 " + step), "parameter(0, 2, 0)", 1);
            due(given(1, "0 COPY 5 2", "0 " + step), "parameter(0, 1, 0)", 0);
            due(given(2, "0 CALL 1 - 2", "1 COPY 5 1", "1 " + step), "parameter(0, 2, 0)", 1);
            due(given(2, "0 CALL 1 - 2", "1 COPY 5 1", "1 " + step), "parameter(0, 1, 0)", 0);
        }
        String[] notKeeping = {"STORE 5 0 3", "PUT 0 3", "GIVE 5", "LOCK 5", "LOAD 5 5 0", "LOAD 3 5 0", "TAKE 5 0",
            "NEW 5", "COPY 3 5", "CALL 0 5 5 5 5"};
        for (String step : notKeeping) {
            due(given(1, "0 COPY 5 2", "0 " + step), "parameter(0, 2, 0)", 0);
        }
        due(given(1, "0 HAND 0"), "parameter(0, 0, 0)", 1);
        due(given(2, "0 GIVE 0", "0 CALL 1 0", "1 GIVE 0"), "parameter(0, 0, 1)", 1);
        due(given(2, "0 GIVE 0", "0 CALL 1 0", "1 GIVE 0"), "parameter(1, 0, 1)", 1);
        for (int p = 0; p < 3; p++) {
            EscapeOwners x = given(2, "0 CALL 1 0 1 2 5", "1 GIVE " + p);
            for (int q = 0; q < 3; q++) {
                due(x, "parameter(1, " + q + ", 1)", p == q ? 1 : 0);
                due(x, "parameter(0, " + q + ", 1)", 0);
            }
            and(x, "0 GIVE 5");
            for (int q = 0; q < 3; q++) {
                due(x, "parameter(0, " + q + ", 1)", p == q ? 1 : 0);
            }
        }
    }

    private static void fresh() {
        says("A METHOD'S RESULT is FRESH, if it points to something, and each such SITE is made by a STEP of "
            + "that METHOD, is not SHARED, has no HOLDER, and no PARAMETER of the METHOD points to it.");
        due(given(2, "0 CALL 1", "1 GIVE 3"), "all(10)", 0);
        EscapeOwners x = given(3, "0 CALL 1 - - - 4", "1 NEW 3", "1 GIVE 3", "1 NEW 5", "1 STORE 3 0 5", "0 LOCK 4");
        due(x, "all(10)", 2);
        and(x, "0 GIVE 4");
        due(x, "all(10)", 2);
        and(x, "1 CALL 2 - - - 3", "2 NEW 3", "2 GIVE 3");
        due(x, "all(10)", 4);
        String[] spoiling = {"1 START 3", "1 PUT 0 3", "0 HAND 4", "1 STORE 5 1 3", "0 STORE 6 0 4", "1 COPY 2 3"};
        for (String step : spoiling) {
            x = given(2, "0 CALL 1 - - - 4", "1 NEW 3", "1 GIVE 3", "1 NEW 5", "0 NEW 6");
            due(x, "all(10)", 2);
            due(and(x, step), "all(10)", 0);
        }
        due(given(3, "0 CALL 1", "0 CALL 2", "1 NEW 3", "1 GIVE 3", "2 NEW 3", "2 GIVE 3"), "all(10)", 2 | 4);
        // Each SITE: one of two that is held is enough.
        x = given(2, "0 CALL 1 - - - 4", "1 NEW 3", "1 NEW 3", "1 GIVE 3", "1 NEW 5");
        due(x, "all(10)", 2);
        due(and(x, "1 NEW 6", "1 GIVE 6", "1 STORE 5 0 6"), "all(10)", 0);
        // A PARAMETER of another METHOD does not count, one of its own does.
        x = given(2, "0 NEW 3", "0 GIVE 3", "0 CALL 1 3");
        due(x, "all(10)", 1);
        due(and(x, "1 CALL 0 - - 0"), "all(10)", 0);
    }

    private static void pure() {
        says("PURE is a METHOD, if neither it nor what it CALLS (what that CALLS, and so on) PUTS, STARTS or "
            + "HANDS, nor STORES to what may be a SITE of no METHOD among these.");
        String[] harms = {"PUT 0 3", "START 3", "HAND 3"};
        for (String harm : harms) {
            EscapeOwners x = given(4, "0 CALL 1", "1 CALL 2", "0 CALL 3", "2 NEW 3");
            due(x, "all(9)", 15);
            due(and(x, "2 " + harm), "all(9)", 8);
        }
        due(given(2, "0 CALL 1", "1 TAKE 3 0", "1 LOAD 4 3 0", "1 LOCK 3", "1 GIVE 3", "1 COPY 5 3"), "all(9)", 3);
        // METHOD 1 STORES to what METHOD 0 made; METHOD 0 CALLS it, so that SITE is of one among these.
        due(given(2, "0 NEW 3", "0 CALL 1 3", "1 STORE 0 0 0"), "all(9)", 1);
        due(given(2, "0 CALL 1", "1 NEW 3", "1 STORE 3 0 3"), "all(9)", 3);
        // METHOD 1 STORES to what METHOD 2, which it CALLS, has made.
        due(given(3, "0 CALL 1", "1 CALL 2 - - - 3", "2 NEW 4", "2 GIVE 4", "1 STORE 3 0 3"), "all(9)", 7);
        // What may be: one of two.
        EscapeOwners x = given(2, "0 NEW 3", "0 CALL 1 3", "1 NEW 5", "1 STORE 5 0 0");
        due(x, "all(9)", 3);
        due(and(x, "1 COPY 5 0"), "all(9)", 1);
        // METHOD 2 STORES to METHOD 0's SITE; METHOD 1 between them is not PURE either.
        due(given(3, "0 NEW 3", "0 CALL 1 3", "1 CALL 2 0", "2 STORE 0 0 0"), "all(9)", 1);
    }

    private static void refusalsInOrder() {
        says("REFUSALS are answers: BAD (a number is none, or out of its bounds) first; then what a call names, "
            + "in the order named.");
        EscapeOwners x = given(2, "1 LOCK 3", "1 NEW 3");
        due(x, "parameter(2, 0, 0)", BAD);
        due(x, "parameter(1, 3, 0)", BAD);
        due(x, "parameter(1, 0, 3)", BAD);
        due(x, "parameter(1, 0, 0)", NONE);
        due(x, "idle(1)", BAD);
        due(x, "idle(2)", BAD);
        due(x, "idle(0)", NONE);
        x = withAllSites(1);
        due(x, "step(1, 0, 3, 0, 0)", BAD);
        due(x, "step(0, 11, 3, 0, 0)", BAD);
        due(x, "step(0, 0, 8, 0, 0)", BAD);
        due(x, "step(0, 0, 3, 0, 0)", FULL);
        for (int i = 16; i < 64; i++) {
            and(x, "0 CALL 0");
        }
        due(x, "step(0, 6, 0, 0, 0)", BAD);
        due(x, "step(0, 3, 0, 4, 0)", BAD);
        due(x, "step(0, 3, 0, 3, 0)", FULL);
        due(x, "call(0, 1, 0, 0, 0, 0)", BAD);
        due(x, "call(0, 0, 0, 0, 0, -2)", BAD);
        due(x, "call(0, 0, 0, 0, 0, -1)", FULL);
    }

    private static void refusedChangesNothing() {
        says("What is refused changes nothing.");
        EscapeOwners x = withAllSites(8);
        and(x, "0 LOCK 3");
        String[] refused = {"method()", "step(0, 0, 3, 0, 0)", "step(8, 5, 0, 3, 0)", "step(0, 5, 4, 3, 0)",
            "step(0, 5, 0, 8, 0)", "step(0, 3, 3, 4, 3)", "step(0, 6, 1, 3, 3)", "call(0, 8, 3, 3, 3, 3)",
            "call(8, 1, 3, 3, 3, 3)", "call(0, 1, 8, 3, 3, 3)", "call(0, 1, 3, 3, 3, 8)", "idle(0)", "all(13)"};
        for (String call : refused) {
            if (ask(x, call) > NONE) {
                fault(call + " is not refused");
            }
            due(x, "all(0)", 8);
            due(x, "all(1)", 17);
            due(x, "all(2)", 16);
            due(x, "all(3)", 1);
            due(x, "all(5)", 0);
            due(x, "points(0, 3)", 1 << 3 | 1 << 11);
            due(x, "field(3, 0)", 0);
            due(x, "told(16, 1)", 10);
        }
        due(x, "step(0, 1, 3, 4, 0)", 17);
    }

    private static void setsAreNumbers() {
        says("Sets are told as numbers (bit s for SITE s, METHOD s).");
        EscapeOwners x = given(8, "0 CALL 7", "0 CALL 2");
        for (int i = 0; i < 16; i++) {
            and(x, "0 NEW " + (i % 2 == 0 ? 3 : 4));
        }
        due(x, "points(0, 3)", 0x5555);
        due(x, "points(0, 4)", 0xaaaa);
        due(x, "all(4)", ALL_SITES);
        due(x, "all(3)", 1 | 1 << 2 | 1 << 7);
        due(x, "calls(0, 0)", 1 << 2 | 1 << 7);
        for (int m = 1; m < 8; m++) {
            x = given(8, "0 CALL " + m, m + " NEW 7", m + " GIVE 7", m + " STORE 7 3 6");
            due(x, "all(3)", 1 | 1 << m);
            due(x, "all(6)", 1);
            due(x, "all(9)", 1 | 1 << m);
            due(x, "all(10)", 1 << m);
            due(x, "of(0, 5)", 1 << m);
            due(x, "of(0, 6)", 1 << m);
            due(x, "calls(0, 0)", 1 << m);
            due(x, "calls(" + m + ", 2)", 1);
            and(x, m + " CALL 0");
            due(x, "calls(0, 2)", 1 << m);
        }
    }

    private static void promiseOfNewObject() {
        says("`EscapeOwners()`: METHOD 0 alone, without STEPS.");
        asAtFirst(new EscapeOwners());
    }

    private static void promiseOfClear() {
        says("`int clear()`: As at first: how many STEPS there were.");
        EscapeOwners x = given(3, "0 NEW 3", "0 PUT 2 3", "0 CALL 2 3", "2 STORE 0 0 0", "0 GIVE 3");
        due(x, "all(5)", 1);
        due(x, "clear()", 5);
        asAtFirst(x);
        due(x, "clear()", 0);
        asAtFirst(x);
        due(x, "method()", 1);
        due(x, "clear()", 0);
        asAtFirst(x);
    }

    private static void promiseOfMethod() {
        says("`int method()`: A METHOD more, without STEPS: its number.");
        EscapeOwners x = given(1, "0 NEW 3");
        for (int m = 1; m < 8; m++) {
            due(x, "points(" + m + ", 0)", BAD);
            due(x, "method()", m);
            due(x, "all(0)", m + 1);
            due(x, "all(1)", 1);
            due(x, "points(" + m + ", 0)", 0);
        }
        says("FULL: 8.");
        due(x, "method()", FULL);
        due(x, "all(0)", 8);
    }

    private static void promiseOfStep() {
        says("`int step(int m, int kind, int a, int b, int c)`: A STEP of METHOD m of KIND 0 .. 5, 7 .. 10, "
            + "with what it needs as above (others do not count): its number.");
        EscapeOwners x = given(3);
        int number = 0;
        for (int kind = 0; kind < 11; kind++) {
            due(x, "step(" + kind % 3 + ", " + kind + ", 1, 2, 3)", kind == CALL ? BAD : number);
            if (kind != CALL) {
                due(x, "told(" + number + ", 0)", kind % 3);
                due(x, "told(" + number + ", 1)", kind);
                number++;
            }
        }
        int[] ofOneNeed = {0, 7, 8, 9, 10};
        for (int kind : ofOneNeed) {
            due(x, "step(0, " + kind + ", 7, -5, 99)", number++);
        }
        int[] ofTwoNeeds = {1, 4, 5};
        for (int kind : ofTwoNeeds) {
            due(x, "step(0, " + kind + ", 3, 3, 99)", number++);
        }
        String[] lastWithin = {"step(2, 0, 7, 0, 0)", "step(2, 1, 7, 7, 0)", "step(2, 2, 7, 7, 3)", "step(2, 3, 7, 3, 7)",
            "step(2, 4, 7, 3, 0)", "step(2, 5, 3, 7, 0)", "step(2, 7, 7, 0, 0)", "step(2, 10, 7, 0, 0)"};
        for (String call : lastWithin) {
            due(x, call, number++);
        }
        says("BAD; FULL: 64 STEPS, or a 17th SITE.");
        stepsThatAreBad(given(2));
        stepsThatAreFull();
    }

    private static void promiseOfCall() {
        says("`int call(int m, int to, int x, int y, int z, int r)`: A CALL, a STEP of METHOD m: its number.");
        EscapeOwners x = given(3, "0 NEW 3");
        due(x, "call(2, 1, 3, -1, 4, 5)", 1);
        due(x, "call(0, 2, -1, -1, -1, -1)", 2);
        due(x, "told(1, 0)", 2);
        due(x, "told(1, 1)", CALL);
        due(x, "all(3)", 7);
        says("BAD; FULL.");
        String[] bad = {"call(3, 0, 0, 0, 0, 0)", "call(-1, 0, 0, 0, 0, 0)", "call(0, 3, 0, 0, 0, 0)",
            "call(0, -1, 0, 0, 0, 0)", "call(0, 0, 8, 0, 0, 0)", "call(0, 0, 0, 8, 0, 0)", "call(0, 0, 0, 0, 8, 0)",
            "call(0, 0, 0, 0, 0, 8)", "call(0, 0, -2, 0, 0, 0)", "call(0, 0, 0, -2, 0, 0)", "call(0, 0, 0, 0, -2, 0)",
            "call(0, 0, 0, 0, 0, -2)"};
        for (String call : bad) {
            due(x, call, BAD);
        }
        for (int i = 3; i < 64; i++) {
            due(x, "call(0, 1, 7, 0, -1, 7)", i);
        }
        due(x, "call(0, 1, 7, 0, -1, 7)", FULL);
    }

    private static void promiseOfUndo() {
        says("`int undo()`: The last STEP goes (a SITE with it): how many are left.");
        EscapeOwners x = given(2, "0 NEW 3", "0 PUT 1 3", "1 NEW 3", "0 CALL 1 3");
        due(x, "points(1, 0)", 1);
        due(x, "undo()", 3);
        due(x, "points(1, 0)", 0);
        due(x, "all(3)", 1);
        due(x, "all(2)", 2);
        due(x, "undo()", 2);
        due(x, "all(2)", 1);
        due(x, "all(1)", 2);
        due(x, "of(1, 0)", BAD);
        due(x, "place(1)", 1);
        due(x, "undo()", 1);
        due(x, "place(1)", 0);
        due(x, "all(2)", 1);
        due(x, "undo()", 0);
        due(x, "points(0, 3)", 0);
        due(x, "all(0)", 2);
        x = given(2, "0 NEW 3", "0 GIVE 3", "0 STORE 3 0 3");
        due(x, "field(0, 0)", 1);
        due(x, "undo()", 2);
        due(x, "field(0, 0)", 0);
        due(x, "result(0)", 1);
        due(x, "undo()", 1);
        due(x, "result(0)", 0);
        due(x, "undo()", 0);
        undone("0 START 3", "all(5)", 1, 0);
        undone("0 HAND 3", "all(9)", 2, 3);
        undone("1 STORE 0 0 7", "of(0, 6)", 2, 0);
        undone("1 STORE 0 0 7", "all(8)", 0, 1);
        undone("0 LOCK 3", "all(11)", 1, 0);
        undone("1 COPY 5 0", "parameter(1, 0, 2)", 2, 1);
        undone("1 GIVE 0", "parameter(1, 0, 1)", 1, 0);
        undone("1 PUT 0 0", "parameter(1, 0, 0)", 1, 0);
        undone("1 CALL 0 0", "calls(1, 0)", 1, 0);
        says("NONE: there is none.");
        due(x, "undo()", NONE);
        due(new EscapeOwners(), "undo()", NONE);
        and(x, "1 NEW 5");
        due(x, "told(0, 2)", 0);
    }

    /** What a question answers with one STEP more, and again without it. */
    private static void undone(String step, String question, int with, int without) {
        EscapeOwners x = given(2, "0 NEW 3", "0 CALL 1 3");
        due(x, question, without);
        and(x, step);
        due(x, question, with);
        due(x, "undo()", 2);
        due(x, question, without);
    }

    private static void asAtFirst(EscapeOwners x) {
        int[] wants = {1, 0, 0, 1, 0, 0, 0, 0, 0, 1, 0, 0, NONE};
        for (int what = 0; what < wants.length; what++) {
            due(x, "all(" + what + ")", wants[what]);
        }
        for (int name = 0; name < 8; name++) {
            due(x, "points(0, " + name + ")", 0);
        }
        for (int number = 0; number < 4; number++) {
            due(x, "place(" + number + ")", 0);
        }
        due(x, "result(0)", 0);
        due(x, "calls(0, 0)", 0);
        due(x, "points(1, 0)", BAD);
        due(x, "field(0, 0)", BAD);
        due(x, "told(0, 0)", BAD);
    }

    private static void stepsThatAreBad(EscapeOwners x) {
        String[] bad = {"step(2, 0, 3, 0, 0)", "step(-1, 0, 3, 0, 0)", "step(0, -1, 3, 0, 0)", "step(0, 6, 3, 0, 0)",
            "step(0, 11, 3, 0, 0)", "step(0, 0, 8, 0, 0)", "step(0, 0, -1, 0, 0)", "step(0, 1, 8, 0, 0)",
            "step(0, 1, 0, 8, 0)", "step(0, 2, 8, 0, 0)", "step(0, 2, 0, 8, 0)", "step(0, 2, 0, 0, 4)",
            "step(0, 3, 8, 0, 0)", "step(0, 3, 0, 4, 0)", "step(0, 3, 0, 0, 8)", "step(0, 4, 8, 0, 0)",
            "step(0, 4, 0, 4, 0)", "step(0, 5, 4, 0, 0)", "step(0, 5, 0, 8, 0)", "step(0, 7, 8, 0, 0)",
            "step(0, 8, 8, 0, 0)", "step(0, 9, 8, 0, 0)", "step(0, 10, 8, 0, 0)", "step(0, 1, 0, -1, 0)",
            "step(0, 2, 0, 0, -1)", "step(0, 3, 0, 0, -1)", "step(0, 5, -1, 0, 0)", "step(0, 10, -1, 0, 0)"};
        for (String call : bad) {
            due(x, call, BAD);
        }
        due(x, "all(1)", 0);
    }

    private static void stepsThatAreFull() {
        EscapeOwners x = withAllSites(2);
        due(x, "step(1, 0, 3, 0, 0)", FULL);
        for (int i = 16; i < 64; i++) {
            due(x, "step(1, 1, 3, 4, 0)", i);
        }
        for (int kind = 0; kind < 11; kind++) {
            due(x, "step(1, " + kind + ", 3, 3, 3)", kind == CALL ? BAD : FULL);
        }
    }

    private static void promiseOfTold() {
        says("`int told(int step, int what)`: Of a STEP: what = 0 its METHOD, 1 its KIND, 2 its SITE (NONE), "
            + "3 .. 7 what it needs, in the order named (NONE: nothing so).");
        EscapeOwners x = given(3, "1 NEW 5", "0 COPY 1 2", "0 LOAD 4 5 3", "2 STORE 6 1 7", "0 TAKE 7 3", "0 PUT 2 6",
            "2 CALL 1 3 - 4 5", "0 GIVE 1", "0 START 2", "0 HAND 3", "0 LOCK 4", "2 NEW 0");
        int[][] rows = {{1, 0, 0, 5}, {0, 1, NONE, 1, 2}, {0, 2, NONE, 4, 5, 3}, {2, 3, NONE, 6, 1, 7},
            {0, 4, NONE, 7, 3}, {0, 5, NONE, 2, 6}, {2, 6, NONE, 1, 3, NONE, 4, 5}, {0, 7, NONE, 1},
            {0, 8, NONE, 2}, {0, 9, NONE, 3}, {0, 10, NONE, 4}, {2, 0, 1, 0}};
        for (int step = 0; step < rows.length; step++) {
            for (int what = 0; what < 8; what++) {
                due(x, "told(" + step + ", " + what + ")", what < rows[step].length ? rows[step][what] : NONE);
            }
        }
        says("BAD: as -2.");
        due(x, "told(12, 0)", -2);
        due(x, "told(-1, 0)", -2);
        due(x, "told(0, -1)", -2);
        due(x, "told(0, 8)", -2);
    }

    private static void promiseOfAll() {
        says("`int all(int what)`: What = 0 METHODS, 1 STEPS, 2 SITES, 3 the set of LIVE METHODS, 4 of LIVE "
            + "SITES, 5 SHARED, 6 OUT, 7 OWNED, 8 FIXED, 9 PURE METHODS, 10 METHODS with a FRESH RESULT, 11 "
            + "how many LOCKS are IDLE, 12 how many rounds: the greatest LEVEL of a SHARED SITE (NONE: none is).");
        // SITES 0 and 1 are METHOD 0's, 2 and 3 METHOD 1's; METHOD 2's SITE 4 is not LIVE.
        EscapeOwners x = given(3, "0 NEW 3", "0 NEW 4", "0 CALL 1 4 - - 5", "1 NEW 3", "1 NEW 4", "1 GIVE 3", "1 STORE 3 0 4",
            "1 STORE 0 0 0", "2 NEW 3", "0 LOCK 5", "0 LOCK 6", "1 LOCK 4");
        int[] wants = {3, 12, 5, 3, 15, 0, 4 | 8, 2 | 8, 1 | 4 | 8, 1, 2, 2, NONE};
        for (int what = 0; what < wants.length; what++) {
            due(x, "all(" + what + ")", wants[what]);
        }
        and(x, "0 HAND 5");
        wants = new int[] {3, 13, 5, 3, 15, 4 | 8, 4 | 8, 2 | 8, 1 | 4 | 8, 0, 0, 0, 1};
        for (int what = 0; what < wants.length; what++) {
            due(x, "all(" + what + ")", wants[what]);
        }
        says("BAD.");
        due(x, "all(-1)", BAD);
        due(x, "all(13)", BAD);
    }

    private static void promiseOfPoints() {
        says("`int points(int m, int x)`: What a NAME of a METHOD points to (0, if it is not LIVE).");
        EscapeOwners x = given(3, "0 NEW 3", "0 NEW 4", "0 CALL 1 - 4", "1 NEW 1", "2 NEW 3");
        due(x, "points(0, 3)", 1);
        due(x, "points(0, 5)", 0);
        due(x, "points(1, 1)", 2 | 4);
        due(x, "points(2, 3)", 0);
        says("BAD.");
        due(x, "points(3, 0)", BAD);
        due(x, "points(-1, 0)", BAD);
        due(x, "points(0, 8)", BAD);
        due(x, "points(2, -1)", BAD);
    }

    private static void promiseOfField() {
        says("`int field(int site, int f)`: What FIELD f of a SITE points to.");
        EscapeOwners x = given(2, "0 NEW 3", "0 NEW 4", "0 STORE 3 3 4", "0 STORE 4 0 3", "0 STORE 4 0 4", "1 NEW 3", "1 STORE 3 1 3");
        due(x, "field(0, 3)", 2);
        due(x, "field(0, 0)", 0);
        due(x, "field(1, 0)", 1 | 2);
        due(x, "field(2, 1)", 0);
        says("BAD.");
        due(x, "field(3, 0)", BAD);
        due(x, "field(-1, 0)", BAD);
        due(x, "field(0, 4)", BAD);
        due(x, "field(0, -1)", BAD);
    }

    private static void promiseOfPlace() {
        says("`int place(int s)`: What PLACE s points to.");
        EscapeOwners x = given(2, "0 NEW 3", "0 NEW 4", "0 PUT 2 3", "0 PUT 2 4", "0 PUT 3 4", "1 NEW 3", "1 PUT 0 3");
        int[] places = {0, 0, 3, 2};
        for (int place = 0; place < 4; place++) {
            due(x, "place(" + place + ")", places[place]);
        }
        says("BAD.");
        due(x, "place(4)", BAD);
        due(x, "place(-1)", BAD);
    }

    private static void promiseOfResult() {
        says("`int result(int m)`: What a METHOD'S RESULT points to.");
        EscapeOwners x = given(3, "0 NEW 3", "0 CALL 1 3", "1 GIVE 0", "1 NEW 4", "1 GIVE 4", "2 NEW 3", "2 GIVE 3");
        due(x, "result(0)", 0);
        due(x, "result(1)", 1 | 2);
        due(x, "result(2)", 0);
        says("BAD.");
        due(x, "result(3)", BAD);
        due(x, "result(-1)", BAD);
    }

    private static void promiseOfOf() {
        says("`int of(int site, int what)`: Of a SITE: what = 0 its METHOD, 1 its STEP, 2 its LEVEL (NONE), 3 how "
            + "many HOLDERS it has, 4 the SITES among its HOLDERS, 5 METHODS of which some NAME points to it, 6 "
            + "METHODS whose STORES are to what may be it.");
        EscapeOwners x = given(4, "0 CALL 2", "2 NEW 3", "2 NEW 4", "2 STORE 3 0 4", "2 STORE 3 2 4", "2 STORE 4 1 4",
            "2 CALL 1 4", "1 STORE 0 0 7", "2 HAND 3", "2 CALL 3 - 3", "0 NEW 5", "0 GIVE 5");
        int[][] rows = {{2, 1, 0, 0, 0, 4 | 8, 4}, {2, 2, 1, 3, 1 | 2, 2 | 4, 2 | 4}, {0, 10, NONE, 0, 0, 1, 0}};
        for (int site = 0; site < rows.length; site++) {
            for (int what = 0; what < 7; what++) {
                due(x, "of(" + site + ", " + what + ")", rows[site][what]);
            }
        }
        x = given(1);
        for (int i = 0; i < 15; i++) {
            and(x, "0 NEW 3");
        }
        and(x, "0 NEW 4", "0 STORE 4 0 3", "0 LOAD 5 4 0");
        due(x, "of(14, 3)", 1);
        due(x, "of(14, 4)", 1 << 15);
        due(x, "points(0, 5)", ALL_SITES >> 1);
        x = given(1, "0 NEW 3", "0 NEW 4", "0 NEW 5");
        says("BAD.");
        due(x, "of(3, 0)", BAD);
        due(x, "of(-1, 0)", BAD);
        due(x, "of(0, 7)", BAD);
        due(x, "of(0, -1)", BAD);
    }

    private static void promiseOfMeet() {
        says("`int meet(int m, int x, int k, int y)`: Whether one may be the other (1 or 0): what NAME x of METHOD m "
            + "and NAME y of METHOD k point to has a SITE in common.");
        due(given(1, "0 NEW 3", "0 COPY 4 3"), "meet(0, 3, 0, 4)", 1);
        EscapeOwners x = given(2, "0 NEW 3", "0 NEW 4", "0 COPY 5 3", "0 COPY 5 4", "0 CALL 1 - 4", "0 STORE 3 0 4");
        due(x, "meet(0, 3, 0, 3)", 1);
        due(x, "meet(0, 3, 0, 4)", 0);
        due(x, "meet(0, 5, 0, 4)", 1);
        due(x, "meet(0, 5, 1, 1)", 1);
        due(x, "meet(1, 1, 0, 4)", 1);
        due(x, "meet(0, 3, 1, 1)", 0);
        due(x, "meet(0, 7, 0, 7)", 0);
        says("BAD.");
        due(x, "meet(2, 0, 0, 0)", BAD);
        due(x, "meet(-1, 0, 0, 0)", BAD);
        due(x, "meet(0, 8, 0, 0)", BAD);
        due(x, "meet(0, -1, 0, 0)", BAD);
        due(x, "meet(0, 0, 2, 0)", BAD);
        due(x, "meet(0, 0, -1, 0)", BAD);
        due(x, "meet(0, 0, 0, 8)", BAD);
        due(x, "meet(0, 0, 0, -1)", BAD);
    }

    private static void promiseOfReach() {
        says("`int reach(int m, int x)`: All SITES that are come to from what a NAME points to by FIELDS (none, one "
            + "or more).");
        due(given(1, "0 NEW 3", "0 NEW 4", "0 STORE 3 0 4"), "reach(0, 3)", 1 | 2);
        due(withChain(), "reach(0, 1)", ALL_SITES);
        EscapeOwners x = given(2, "0 NEW 3", "0 NEW 4", "0 NEW 5", "0 NEW 6", "0 NEW 7", "0 STORE 3 0 4", "0 STORE 4 3 5",
            "0 STORE 5 1 4", "0 STORE 6 2 3", "0 PUT 0 7");
        due(x, "reach(0, 0)", 0);
        due(x, "reach(0, 7)", 16);
        due(x, "reach(0, 5)", 2 | 4);
        due(x, "reach(0, 3)", 1 | 2 | 4);
        due(x, "reach(0, 6)", 15);
        due(x, "reach(1, 3)", 0);
        says("BAD.");
        due(x, "reach(2, 0)", BAD);
        due(x, "reach(-1, 0)", BAD);
        due(x, "reach(0, 8)", BAD);
        due(x, "reach(0, -1)", BAD);
    }

    private static void promiseOfParameter() {
        says("`int parameter(int m, int p, int what)`: Of PARAMETER p (0 .. 2) of a METHOD: what = 0 whether it is "
            + "KEPT, 1 whether it comes BACK, 2 how many NAMES are MARKED by it.");
        EscapeOwners x = given(3, "0 CALL 1", "1 PUT 0 0", "1 GIVE 1", "1 COPY 3 2", "1 COPY 4 3", "2 START 0");
        int[][] rows = {{1, 0, 1}, {0, 1, 1}, {0, 0, 3}};
        for (int p = 0; p < 3; p++) {
            for (int what = 0; what < 3; what++) {
                due(x, "parameter(1, " + p + ", " + what + ")", rows[p][what]);
            }
        }
        says("BAD; NONE: the METHOD is not LIVE.");
        due(x, "parameter(3, 0, 0)", BAD);
        due(x, "parameter(-1, 0, 0)", BAD);
        due(x, "parameter(1, 3, 0)", BAD);
        due(x, "parameter(1, -1, 0)", BAD);
        due(x, "parameter(1, 0, 3)", BAD);
        due(x, "parameter(1, 0, -1)", BAD);
        for (int what = 0; what < 3; what++) {
            due(x, "parameter(2, 0, " + what + ")", NONE);
        }
    }

    private static void promiseOfIdle() {
        says("`int idle(int step)`: Whether a LOCK is IDLE (1 or 0).");
        EscapeOwners x = given(2, "0 NEW 3", "0 NEW 4", "0 START 4", "0 LOCK 3", "0 LOCK 4", "0 LOCK 5", "1 LOCK 3", "1 NEW 3");
        due(x, "idle(3)", 1);
        due(x, "idle(4)", 0);
        due(x, "idle(5)", 0);
        says("BAD: also the STEP is no LOCK; NONE: its METHOD is not LIVE.");
        due(x, "idle(8)", BAD);
        due(x, "idle(-1)", BAD);
        due(x, "idle(0)", BAD);
        due(x, "idle(2)", BAD);
        due(x, "idle(7)", BAD);
        due(x, "idle(6)", NONE);
    }

    private static void promiseOfCalls() {
        says("`int calls(int m, int what)`: METHODS that a METHOD CALLS (what = 0), or what these CALL, too, and so "
            + "on (1); that CALL it (2).");
        EscapeOwners x = given(5, "0 CALL 1", "1 CALL 2", "2 CALL 1", "0 CALL 3", "3 CALL 3", "0 CALL 3", "2 CALL 4");
        int[][] rows = new int[][] {{2 | 8, 2 | 4 | 8 | 16, 0}, {4, 2 | 4 | 16, 1 | 4}, {2 | 16, 2 | 4 | 16, 2}, {8, 8, 1 | 8},
            {0, 0, 4}};
        for (int m = 0; m < 5; m++) {
            for (int what = 0; what < 3; what++) {
                due(x, "calls(" + m + ", " + what + ")", rows[m][what]);
            }
        }
        says("BAD.");
        due(x, "calls(5, 0)", BAD);
        due(x, "calls(-1, 0)", BAD);
        due(x, "calls(0, 3)", BAD);
        due(x, "calls(0, -1)", BAD);
    }

    private static void notPromised() {
        // These sentences leave things free; what they leave free has no test.
        says("How the state is held inside the object is free, as are the speed of each call, the text of toString "
            + "and the behaviour of equals and hashCode.");
        says("Use of one object from several threads at once is not promised to be safe.");
        says("Nothing is promised beyond the answers and state changes described above, and nothing about an object "
            + "after its 512th call.");
        // So a question changes nothing.
        EscapeOwners x = given(2, "0 NEW 3", "0 CALL 1 3 - - 4", "1 GIVE 0", "1 LOCK 0");
        String[] questions = {"told(0, 2)", "all(6)", "points(0, 4)", "field(0, 0)", "place(0)", "result(1)", "of(0, 5)",
            "meet(0, 3, 1, 0)", "reach(0, 3)", "parameter(1, 0, 2)", "idle(3)", "calls(0, 0)"};
        int[] wants = {0, 0, 1, 0, 0, 1, 3, 1, 1, 2, 1, 2};
        for (int round = 0; round < 2; round++) {
            for (int i = 0; i < questions.length; i++) {
                due(x, questions[i], wants[i]);
            }
        }
    }

    private static void everySentenceIsQuoted() throws IOException {
        if (!Files.exists(DOCUMENT)) {
            System.out.println("the document is not there, so the quotes are not held against it");
            return;
        }
        String document = wordsOf(Files.readString(DOCUMENT));
        String quoted = String.join(" ", QUOTES);
        int same = 0;
        while (same < document.length() && same < quoted.length() && document.charAt(same) == quoted.charAt(same)) {
            same++;
        }
        if (same < document.length() || same < quoted.length()) {
            wrong++;
            System.out.println("the quotes leave the document at: " + from(document, same));
            System.out.println("they say there: " + from(quoted, same));
        }
    }

    private static String from(String text, int start) {
        return text.substring(start, Math.min(text.length(), start + 80));
    }

    /** The document without its headings and its face, which EscapeOwnersFace tests. */
    private static String wordsOf(String text) {
        String plain = text.replaceAll("(?s)```java.*?```", " ").replace("```text", " ").replace("```", " ");
        return plain.replaceAll("(?m)^#.*$", " ").replaceAll("\\s+", " ").trim();
    }
}
