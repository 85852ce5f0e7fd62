/** Every promise of the document by hand: ordinary inputs, the edges that it names, wrong inputs. */
public final class EscapeOwnersPromises {
    private static final int NONE = EscapeOwners.NONE, BAD = EscapeOwners.BAD, FULL = EscapeOwners.FULL;
    private static final int NEW = 0, COPY = 1, LOAD = 2, STORE = 3, TAKE = 4, PUT = 5;
    private static final int CALL = 6, GIVE = 7, START = 8, HAND = 9, LOCK = 10;
    private static final int MIN = Integer.MIN_VALUE, MAX = Integer.MAX_VALUE;

    private static int wrong = 0;
    private static int promise = 0;

    public static void main(String[] args) {
        constants();
        newObject();
        clear();
        method();
        step();
        call();
        undo();
        told();
        allCounts();
        allLive();
        allShared();
        allOut();
        allOwned();
        allFixed();
        allPure();
        allFresh();
        allIdle();
        allLevels();
        allBad();
        points();
        pointsInAnyOrder();
        field();
        place();
        result();
        of();
        ofNotLive();
        meet();
        reach();
        parameter();
        parameterKept();
        parameterBack();
        idle();
        calls();
        refusedChangesNothing();
        lastOfAll();
        System.out.println(wrong == 0 ? "all answers are as due" : wrong + " answers are not as due");
        if (wrong != 0) {
            System.exit(1);
        }
    }

    private static void due(String call, int got, int want) {
        if (got != want) {
            wrong++;
            System.out.println("promise " + promise + ": " + call + " answered " + got + ", due is " + want);
        }
    }

    /** An object with some METHODS, METHOD 0 included. */
    private static EscapeOwners with(int methods) {
        EscapeOwners x = new EscapeOwners();
        for (int i = 1; i < methods; i++) {
            x.method();
        }
        return x;
    }

    private static void constants() {
        due("NONE", NONE, -1);
        due("BAD", BAD, -2);
        due("FULL", FULL, -3);
    }

    private static void newObject() {
        promise = 1;
        EscapeOwners x = new EscapeOwners();
        due("all(0)", x.all(0), 1);
        due("all(1)", x.all(1), 0);
        due("all(2)", x.all(2), 0);
        due("all(3)", x.all(3), 1);
        due("all(4)", x.all(4), 0);
        due("all(9)", x.all(9), 1);
        due("all(12)", x.all(12), NONE);
        due("undo()", x.undo(), NONE);
        due("points(0, 7)", x.points(0, 7), 0);
        due("result(1)", x.result(1), BAD);
        due("told(0, 0)", x.told(0, 0), BAD);
        EscapeOwners other = new EscapeOwners();
        x.step(0, NEW, 0, 0, 0);
        due("another object's all(1)", other.all(1), 0);
    }

    private static void clear() {
        promise = 2;
        EscapeOwners x = with(3);
        x.step(0, NEW, 3, 0, 0);
        x.step(0, PUT, 2, 3, 0);
        x.call(0, 2, 3, NONE, NONE, NONE);
        due("place(2)", x.place(2), 1);
        due("clear()", x.clear(), 3);
        due("clear() again", x.clear(), 0);
        due("all(0)", x.all(0), 1);
        due("all(1)", x.all(1), 0);
        due("all(2)", x.all(2), 0);
        due("all(3)", x.all(3), 1);
        due("all(5)", x.all(5), 0);
        due("all(12)", x.all(12), NONE);
        due("place(2)", x.place(2), 0);
        due("points(0, 3)", x.points(0, 3), 0);
        due("points(2, 0)", x.points(2, 0), BAD);
        due("field(0, 0)", x.field(0, 0), BAD);
        due("method()", x.method(), 1);
        due("step", x.step(1, NEW, 0, 0, 0), 0);
        due("told(0, 2)", x.told(0, 2), 0);
    }

    private static void method() {
        promise = 3;
        EscapeOwners x = new EscapeOwners();
        for (int i = 1; i < 8; i++) {
            due("method()", x.method(), i);
        }
        due("method() beyond 8", x.method(), FULL);
        due("all(0)", x.all(0), 8);
        due("all(3)", x.all(3), 1);
        due("step in METHOD 7", x.step(7, NEW, 7, 0, 0), 0);
        due("step in METHOD 8", x.step(8, NEW, 7, 0, 0), BAD);
        x.clear();
        due("method() after clear", x.method(), 1);
    }

    /** For each KIND the bounds of what it needs, 0 where it needs no more. */
    private static final int[][] BOUNDS = {
        {8, 0, 0}, {8, 8, 0}, {8, 8, 4}, {8, 4, 8}, {8, 4, 0}, {4, 8, 0}, null,
        {8, 0, 0}, {8, 0, 0}, {8, 0, 0}, {8, 0, 0}
    };

    private static void step() {
        promise = 4;
        for (int kind = 0; kind < BOUNDS.length; kind++) {
            if (BOUNDS[kind] != null) {
                stepOfKind(kind);
            }
        }
        EscapeOwners x = with(2);
        due("step of KIND 6", x.step(0, CALL, 0, 0, 0), BAD);
        due("step of KIND -1", x.step(0, -1, 0, 0, 0), BAD);
        due("step of KIND 11", x.step(0, 11, 0, 0, 0), BAD);
        due("step of KIND MIN", x.step(0, MIN, 0, 0, 0), BAD);
        due("step of KIND MAX", x.step(0, MAX, 0, 0, 0), BAD);
        due("step in METHOD 2", x.step(2, NEW, 0, 0, 0), BAD);
        due("step in METHOD -1", x.step(-1, NEW, 0, 0, 0), BAD);
        due("step in METHOD MAX", x.step(MAX, NEW, 0, 0, 0), BAD);
        due("step in METHOD MIN", x.step(MIN, NEW, 0, 0, 0), BAD);
        due("all(1)", x.all(1), 0);
        for (int i = 0; i < 16; i++) {
            due("NEW", x.step(i & 1, NEW, i & 7, 0, 0), i);
        }
        due("a 17th SITE", x.step(0, NEW, 0, 0, 0), FULL);
        due("a 17th SITE of a bad NAME", x.step(0, NEW, 8, 0, 0), BAD);
        due("all(2)", x.all(2), 16);
        for (int i = 16; i < 64; i++) {
            due("COPY", x.step(0, COPY, 0, 1, 0), i);
        }
        due("a 65th STEP", x.step(0, COPY, 0, 1, 0), FULL);
        due("a 65th STEP of a bad NAME", x.step(0, COPY, 0, 8, 0), BAD);
        due("a 65th STEP of KIND 6", x.step(0, CALL, 0, 0, 0), BAD);
        due("all(1)", x.all(1), 64);
    }

    private static void stepOfKind(int kind) {
        EscapeOwners x = new EscapeOwners();
        int steps = 0;
        for (int which = 0; which < 3; which++) {
            int bound = BOUNDS[kind][which];
            for (int value : new int[] {0, 3, 4, 7, 8, -1, MIN, MAX}) {
                int[] given = {0, 0, 0};
                given[which] = value;
                boolean good = bound == 0 || value >= 0 && value < bound;
                String call = "step(0, " + kind + ", " + given[0] + ", " + given[1] + ", " + given[2] + ")";
                due(call, x.step(0, kind, given[0], given[1], given[2]), good ? steps : BAD);
                if (good) {
                    due("told need " + which, x.told(steps, 3 + which), bound == 0 ? NONE : value);
                    x.undo();
                }
            }
        }
        due("all(1)", x.all(1), 0);
    }

    private static void call() {
        promise = 5;
        EscapeOwners x = with(3);
        due("call", x.call(0, 2, 7, 0, NONE, 5), 0);
        due("call without anything", x.call(2, 1, NONE, NONE, NONE, NONE), 1);
        due("call of itself", x.call(1, 1, 0, 1, 2, 3), 2);
        due("told KIND", x.told(0, 1), CALL);
        int[] wrongMethods = {-1, 3, 8, MIN, MAX};
        for (int m : wrongMethods) {
            due("call in METHOD " + m, x.call(m, 0, 0, 0, 0, 0), BAD);
            due("call of METHOD " + m, x.call(0, m, 0, 0, 0, 0), BAD);
        }
        int[] wrongNames = {-2, 8, MIN, MAX};
        for (int n : wrongNames) {
            due("call with x " + n, x.call(0, 0, n, 0, 0, 0), BAD);
            due("call with y " + n, x.call(0, 0, 0, n, 0, 0), BAD);
            due("call with z " + n, x.call(0, 0, 0, 0, n, 0), BAD);
            due("call with r " + n, x.call(0, 0, 0, 0, 0, n), BAD);
        }
        for (int i = 3; i < 64; i++) {
            due("call", x.call(0, 0, 0, 0, 0, 0), i);
        }
        due("a 65th STEP", x.call(0, 0, 0, 0, 0, 0), FULL);
        due("a bad 65th STEP", x.call(0, 0, 0, 0, 0, 8), BAD);
        due("a bad 65th STEP", x.call(3, 0, 0, 0, 0, 0), BAD);
        due("all(1)", x.all(1), 64);
    }

    private static void undo() {
        promise = 6;
        EscapeOwners x = with(2);
        due("undo() at first", x.undo(), NONE);
        x.step(0, NEW, 3, 0, 0);
        x.step(0, PUT, 1, 3, 0);
        x.step(1, NEW, 3, 0, 0);
        x.call(0, 1, 3, NONE, NONE, NONE);
        due("points(1, 0)", x.points(1, 0), 1);
        due("all(4)", x.all(4), 3);
        due("undo() of a CALL", x.undo(), 3);
        due("points(1, 0)", x.points(1, 0), 0);
        due("all(3)", x.all(3), 1);
        due("all(4)", x.all(4), 1);
        due("all(2)", x.all(2), 2);
        due("undo() of a NEW", x.undo(), 2);
        due("all(2)", x.all(2), 1);
        due("of(1, 0)", x.of(1, 0), BAD);
        due("place(1)", x.place(1), 1);
        due("undo() of a PUT", x.undo(), 1);
        due("place(1)", x.place(1), 0);
        due("all(2)", x.all(2), 1);
        due("undo() of the last", x.undo(), 0);
        due("undo() of none", x.undo(), NONE);
        due("all(0)", x.all(0), 2);
        due("NEW", x.step(1, NEW, 0, 0, 0), 0);
        due("of(0, 0)", x.of(0, 0), 1);
        x.clear();
        for (int i = 0; i < 16; i++) {
            x.step(0, NEW, 0, 0, 0);
        }
        due("undo() of the 16th SITE", x.undo(), 15);
        due("NEW again", x.step(0, NEW, 0, 0, 0), 15);
        due("NEW beyond", x.step(0, NEW, 0, 0, 0), FULL);
    }

    private static void told() {
        promise = 7;
        EscapeOwners x = with(3);
        x.step(1, NEW, 5, 99, 99);
        x.step(0, COPY, 1, 2, 99);
        x.step(0, LOAD, 4, 5, 3);
        x.step(2, STORE, 6, 1, 7);
        x.step(0, TAKE, 7, 3, -5);
        x.step(0, PUT, 2, 6, -5);
        x.call(2, 1, 3, NONE, 4, 5);
        x.step(0, GIVE, 1, -1, -1);
        x.step(0, START, 2, -1, -1);
        x.step(0, HAND, 3, -1, -1);
        x.step(0, LOCK, 4, -1, -1);
        x.step(0, NEW, 0, 0, 0);
        toldRow(x, 0, 1, NEW, 0, 5);
        toldRow(x, 1, 0, COPY, NONE, 1, 2);
        toldRow(x, 2, 0, LOAD, NONE, 4, 5, 3);
        toldRow(x, 3, 2, STORE, NONE, 6, 1, 7);
        toldRow(x, 4, 0, TAKE, NONE, 7, 3);
        toldRow(x, 5, 0, PUT, NONE, 2, 6);
        toldRow(x, 6, 2, CALL, NONE, 1, 3, NONE, 4, 5);
        toldRow(x, 7, 0, GIVE, NONE, 1);
        toldRow(x, 8, 0, START, NONE, 2);
        toldRow(x, 9, 0, HAND, NONE, 3);
        toldRow(x, 10, 0, LOCK, NONE, 4);
        toldRow(x, 11, 0, NEW, 1, 0);
        due("told(12, 0)", x.told(12, 0), BAD);
        due("told(-1, 0)", x.told(-1, 0), BAD);
        due("told(MIN, 0)", x.told(MIN, 0), BAD);
        due("told(MAX, 0)", x.told(MAX, 0), BAD);
        due("told(0, -1)", x.told(0, -1), BAD);
        due("told(0, 8)", x.told(0, 8), BAD);
        due("told(0, MIN)", x.told(0, MIN), BAD);
        due("told(0, MAX)", x.told(0, MAX), BAD);
        x.undo();
        due("told(11, 0) after undo", x.told(11, 0), BAD);
        x.clear();
        x.call(0, 0, 1, 2, 3, 4);
        x.undo();
        x.step(0, NEW, 6, 7, 7);
        toldRow(x, 0, 0, NEW, 0, 6);
    }

    private static void toldRow(EscapeOwners x, int step, int... wants) {
        for (int what = 0; what < 8; what++) {
            due("told(" + step + ", " + what + ")", x.told(step, what), what < wants.length ? wants[what] : NONE);
        }
    }

    private static void allCounts() {
        promise = 8;
        EscapeOwners x = with(4);
        x.step(3, NEW, 0, 0, 0);
        x.step(0, NEW, 3, 0, 0);
        x.step(1, COPY, 0, 0, 0);
        due("all(0)", x.all(0), 4);
        due("all(1)", x.all(1), 3);
        due("all(2)", x.all(2), 2);
    }

    private static void allLive() {
        EscapeOwners x = with(8);
        x.call(5, 6, NONE, NONE, NONE, NONE);
        x.call(2, 5, NONE, NONE, NONE, NONE);
        x.step(6, NEW, 3, 0, 0);
        x.step(7, NEW, 3, 0, 0);
        x.step(0, NEW, 3, 0, 0);
        x.call(7, 0, 3, NONE, NONE, NONE);
        due("all(3) of METHOD 0 alone", x.all(3), 1);
        due("all(4) of METHOD 0 alone", x.all(4), 1 << 2);
        x.call(0, 2, NONE, NONE, NONE, NONE);
        due("all(3)", x.all(3), 1 | 1 << 2 | 1 << 5 | 1 << 6);
        due("all(4)", x.all(4), 1 | 1 << 2);
        due("points(0, 0), called by 7", x.points(0, 0), 0);
        due("points(7, 3)", x.points(7, 3), 0);
        due("points(6, 3)", x.points(6, 3), 1);
    }

    private static void allShared() {
        EscapeOwners x = with(2);
        for (int i = 0; i < 5; i++) {
            x.step(0, NEW, 3 + i, 0, 0);
        }
        due("all(5)", x.all(5), 0);
        x.step(0, PUT, 3, 3, 0);
        due("all(5) by PUT", x.all(5), 1);
        x.step(0, START, 4, 0, 0);
        due("all(5) by START", x.all(5), 3);
        x.step(0, HAND, 5, 0, 0);
        due("all(5) by HAND", x.all(5), 7);
        x.step(0, STORE, 5, 2, 6);
        due("all(5) by a FIELD", x.all(5), 15);
        x.step(0, STORE, 7, 2, 3);
        due("all(5) of a holder", x.all(5), 15);
        x.step(1, COPY, 3, 0, 0);
        x.step(1, START, 3, 0, 0);
        due("all(5), not LIVE", x.all(5), 15);
        x.call(0, 1, 7, NONE, NONE, NONE);
        due("all(5) by a CALL", x.all(5), 31);
    }

    private static void allOut() {
        EscapeOwners x = with(3);
        x.call(0, 1, NONE, NONE, NONE, 3);
        x.step(1, NEW, 3, 0, 0);
        x.step(1, NEW, 4, 0, 0);
        x.step(1, NEW, 5, 0, 0);
        x.step(1, STORE, 3, 0, 4);
        due("all(6): all STAYS", x.all(6), 0);
        x.step(1, GIVE, 3, 0, 0);
        due("all(6) by the RESULT and its FIELD", x.all(6), 3);
        x.step(1, PUT, 0, 5, 0);
        due("all(6) by a PLACE", x.all(6), 7);
        x.clear();
        x.method();
        x.method();
        // METHOD 1 keeps its SITE 1 in a SITE of METHOD 2's, and that in what it was given.
        x.step(0, NEW, 3, 0, 0);
        x.call(0, 1, NONE, 3, NONE, NONE);
        x.step(1, NEW, 4, 0, 0);
        x.call(1, 2, NONE, NONE, NONE, 5);
        x.step(2, NEW, 3, 0, 0);
        x.step(2, GIVE, 3, 0, 0);
        x.step(1, STORE, 5, 3, 4);
        due("all(6) before it is kept", x.all(6), 4);
        x.step(1, STORE, 1, 2, 5);
        due("all(6) by whatever SITES", x.all(6), 6);
        x.clear();
        x.step(0, NEW, 2, 0, 0);
        x.step(0, NEW, 3, 0, 0);
        due("all(6): a PARAMETER's NAME", x.all(6), 1);
        x.clear();
        x.method();
        x.step(0, NEW, 3, 0, 0);
        x.call(0, 1, 3, NONE, NONE, NONE);
        due("all(6): a PARAMETER of another METHOD", x.all(6), 0);
        x.clear();
        x.method();
        x.step(0, NEW, 3, 0, 0);
        x.step(0, NEW, 4, 0, 0);
        x.step(0, STORE, 3, 0, 4);
        x.call(0, 1, 3, NONE, NONE, NONE);
        x.step(1, GIVE, 0, 0, 0);
        due("all(6): the RESULT of another METHOD", x.all(6), 0);
    }

    private static void allOwned() {
        EscapeOwners x = new EscapeOwners();
        for (int i = 0; i < 4; i++) {
            x.step(0, NEW, 3 + i, 0, 0);
        }
        due("all(7)", x.all(7), 0);
        x.step(0, STORE, 3, 0, 4);
        due("all(7): one HOLDER", x.all(7), 2);
        x.step(0, STORE, 3, 1, 4);
        due("all(7): two FIELDS of one SITE", x.all(7), 0);
        x.undo();
        x.step(0, STORE, 3, 0, 4);
        due("all(7): the same FIELD", x.all(7), 2);
        x.step(0, STORE, 5, 0, 4);
        due("all(7): two SITES", x.all(7), 0);
        x.undo();
        x.step(0, STORE, 6, 3, 6);
        due("all(7): itself", x.all(7), 2 | 8);
        x.step(0, HAND, 4, 0, 0);
        due("all(7): HANDED", x.all(7), 2 | 8);
        x.step(0, PUT, 0, 3, 0);
        due("all(7): its HOLDER is PUT", x.all(7), 2 | 8);
        x.step(0, PUT, 0, 4, 0);
        due("all(7): PUT", x.all(7), 8);
    }

    private static void allFixed() {
        EscapeOwners x = with(3);
        x.step(0, NEW, 3, 0, 0);
        x.step(0, NEW, 4, 0, 0);
        x.step(2, NEW, 3, 0, 0);
        x.step(0, STORE, 3, 0, 4);
        due("all(8): its own METHOD's STORE", x.all(8), 3);
        x.step(1, STORE, 0, 0, 7);
        x.call(2, 1, 3, NONE, NONE, NONE);
        due("all(8): a STORE that is not LIVE", x.all(8), 3);
        x.call(0, 1, 3, NONE, NONE, NONE);
        due("all(8): another METHOD's STORE, of nothing", x.all(8), 2);
        x.call(0, 2, NONE, NONE, NONE, NONE);
        due("all(8): all are LIVE", x.all(8), 2);
        x.undo();
        x.undo();
        x.call(0, 2, NONE, NONE, NONE, NONE);
        due("all(8): METHOD 1 writes to METHOD 2's", x.all(8), 3);
    }

    private static void allPure() {
        for (int kind : new int[] {PUT, START, HAND}) {
            EscapeOwners x = with(4);
            x.call(0, 1, NONE, NONE, NONE, NONE);
            x.call(1, 2, NONE, NONE, NONE, NONE);
            x.call(0, 3, NONE, NONE, NONE, NONE);
            due("all(9)", x.all(9), 15);
            x.step(2, kind, 3, 3, 0);
            due("all(9): KIND " + kind, x.all(9), 8);
        }
        EscapeOwners x = with(4);
        x.step(3, LOCK, 0, 0, 0);
        due("all(9): not LIVE", x.all(9), 1);
        x.step(0, NEW, 3, 0, 0);
        x.call(0, 1, 3, NONE, NONE, NONE);
        x.call(1, 2, 0, NONE, NONE, NONE);
        x.step(2, STORE, 0, 0, 3);
        due("all(9): STORE to a caller's", x.all(9), 1);
        x.step(0, TAKE, 4, 0, 0);
        x.step(0, LOAD, 4, 3, 0);
        x.step(0, GIVE, 4, 0, 0);
        x.step(1, LOCK, 0, 0, 0);
        due("all(9): what does not count", x.all(9), 1);
        x.clear();
        x.method();
        x.method();
        // METHOD 2 makes what METHOD 1 changes; METHOD 1 CALLS it.
        x.call(0, 1, NONE, NONE, NONE, NONE);
        x.call(1, 2, NONE, NONE, NONE, 4);
        x.step(2, NEW, 3, 0, 0);
        x.step(2, GIVE, 3, 0, 0);
        x.step(1, STORE, 4, 0, 4);
        due("all(9): STORE to what a CALLED one made", x.all(9), 7);
        x.step(0, NEW, 5, 0, 0);
        x.call(0, 1, 5, NONE, NONE, NONE);
        x.step(1, COPY, 4, 0, 0);
        due("all(9): or to what a caller made", x.all(9), 5);
        x.clear();
        x.method();
        x.call(0, 1, NONE, NONE, NONE, NONE);
        x.call(1, 0, NONE, NONE, NONE, NONE);
        x.step(0, NEW, 3, 0, 0);
        x.call(0, 1, 3, NONE, NONE, NONE);
        x.step(1, STORE, 0, 0, 0);
        due("all(9): a caller that it CALLS", x.all(9), 3);
    }

    private static void allFresh() {
        EscapeOwners x = with(3);
        x.call(0, 1, NONE, NONE, NONE, 3);
        due("all(10)", x.all(10), 0);
        x.step(1, GIVE, 3, 0, 0);
        due("all(10): nothing", x.all(10), 0);
        x.step(1, NEW, 3, 0, 0);
        due("all(10)", x.all(10), 2);
        x.step(0, GIVE, 3, 0, 0);
        due("all(10): another METHOD's SITE", x.all(10), 2);
        x.step(1, NEW, 4, 0, 0);
        x.step(1, STORE, 3, 0, 4);
        due("all(10): it holds", x.all(10), 2);
        x.step(1, STORE, 4, 0, 3);
        due("all(10): it is held", x.all(10), 0);
        x.undo();
        x.step(1, COPY, 2, 3, 0);
        due("all(10): a PARAMETER", x.all(10), 0);
        x.undo();
        x.step(0, HAND, 3, 0, 0);
        due("all(10): SHARED", x.all(10), 0);
        x.undo();
        x.step(1, GIVE, 4, 0, 0);
        due("all(10): one of two is held", x.all(10), 0);
        x.undo();
        x.call(0, 1, 3, NONE, NONE, NONE);
        due("all(10): given back to it", x.all(10), 0);
        x.undo();
        x.step(2, NEW, 3, 0, 0);
        x.step(2, GIVE, 3, 0, 0);
        due("all(10): METHOD 2 is not LIVE", x.all(10), 2);
        x.call(1, 2, NONE, NONE, NONE, 3);
        due("all(10): one of two is another's", x.all(10), 4);
    }

    private static void allIdle() {
        EscapeOwners x = with(2);
        x.step(0, LOCK, 3, 0, 0);
        due("all(11): of nothing", x.all(11), 0);
        x.step(0, NEW, 3, 0, 0);
        due("all(11)", x.all(11), 1);
        x.step(0, LOCK, 3, 0, 0);
        x.step(1, NEW, 3, 0, 0);
        x.step(1, LOCK, 3, 0, 0);
        due("all(11): one is not LIVE", x.all(11), 2);
        x.call(0, 1, NONE, NONE, NONE, NONE);
        due("all(11)", x.all(11), 3);
        x.step(0, NEW, 4, 0, 0);
        x.step(0, COPY, 3, 4, 0);
        x.step(0, START, 4, 0, 0);
        due("all(11): one of two is SHARED", x.all(11), 1);
    }

    private static void allLevels() {
        EscapeOwners x = new EscapeOwners();
        for (int i = 0; i < 16; i++) {
            x.step(0, NEW, 3 + i % 2, 0, 0);
        }
        due("all(12)", x.all(12), NONE);
        x.clear();
        x.step(0, NEW, 3, 0, 0);
        x.step(0, NEW, 4, 0, 0);
        x.step(0, NEW, 5, 0, 0);
        x.step(0, NEW, 6, 0, 0);
        x.step(0, STORE, 3, 0, 4);
        x.step(0, STORE, 4, 1, 5);
        x.step(0, STORE, 5, 2, 6);
        x.step(0, STORE, 6, 3, 3);
        due("all(12)", x.all(12), NONE);
        x.step(0, PUT, 0, 3, 0);
        due("all(12)", x.all(12), 3);
        due("of(0, 2)", x.of(0, 2), 0);
        due("of(1, 2)", x.of(1, 2), 1);
        due("of(2, 2)", x.of(2, 2), 2);
        due("of(3, 2)", x.of(3, 2), 3);
        x.step(0, STORE, 3, 3, 6);
        due("all(12): the least LEVEL", x.all(12), 2);
        due("of(3, 2)", x.of(3, 2), 1);
        x.step(0, START, 5, 0, 0);
        due("all(12)", x.all(12), 1);
        x.clear();
        // A chain of all 16 SITES, each made in a METHOD that links it to what it gets.
        for (int i = 1; i < 8; i++) {
            x.method();
        }
        for (int m = 0; m < 8; m++) {
            x.step(m, NEW, 3, 0, 0);
            x.step(m, NEW, 4, 0, 0);
            x.step(m, STORE, 0, 0, 3);
            x.step(m, STORE, 3, 0, 4);
            if (m < 7) {
                x.call(m, m + 1, 4, NONE, NONE, NONE);
            }
        }
        x.step(0, PUT, 0, 3, 0);
        due("all(12) of a chain", x.all(12), 15);
        due("of(15, 2)", x.of(15, 2), 15);
        due("reach(0, 3)", x.reach(0, 3), 0xffff);
        due("reach(7, 4)", x.reach(7, 4), 0x8000);
        due("all(5)", x.all(5), 0xffff);
    }

    private static void allBad() {
        EscapeOwners x = new EscapeOwners();
        due("all(13)", x.all(13), BAD);
        due("all(-1)", x.all(-1), BAD);
        due("all(MIN)", x.all(MIN), BAD);
        due("all(MAX)", x.all(MAX), BAD);
    }

    private static void points() {
        promise = 9;
        EscapeOwners x = with(3);
        x.step(0, NEW, 3, 0, 0);
        x.step(0, NEW, 4, 0, 0);
        x.step(0, COPY, 5, 3, 0);
        x.step(0, COPY, 5, 4, 0);
        due("points(0, 5) by COPY", x.points(0, 5), 3);
        due("points(0, 3): no way back", x.points(0, 3), 1);
        x.step(0, STORE, 3, 2, 4);
        x.step(0, LOAD, 6, 3, 2);
        x.step(0, LOAD, 7, 3, 1);
        due("points(0, 6) by LOAD", x.points(0, 6), 2);
        due("points(0, 7) by LOAD of another FIELD", x.points(0, 7), 0);
        x.step(0, PUT, 1, 3, 0);
        x.step(0, TAKE, 7, 1, 0);
        due("points(0, 7) by TAKE", x.points(0, 7), 1);
        x.call(0, 1, 3, NONE, 5, 0);
        due("points(1, 0)", x.points(1, 0), 1);
        due("points(1, 1)", x.points(1, 1), 0);
        due("points(1, 2)", x.points(1, 2), 3);
        due("points(0, 0)", x.points(0, 0), 0);
        x.step(1, NEW, 3, 0, 0);
        x.step(1, GIVE, 3, 0, 0);
        due("points(0, 0) by GIVE", x.points(0, 0), 4);
        x.step(2, NEW, 3, 0, 0);
        due("points(2, 3), not LIVE", x.points(2, 3), 0);
        due("points(3, 0)", x.points(3, 0), BAD);
        due("points(-1, 0)", x.points(-1, 0), BAD);
        due("points(0, 8)", x.points(0, 8), BAD);
        due("points(0, -1)", x.points(0, -1), BAD);
        due("points(MIN, 0)", x.points(MIN, 0), BAD);
        due("points(0, MAX)", x.points(0, MAX), BAD);
    }

    private static void pointsInAnyOrder() {
        EscapeOwners x = with(2);
        // The STEPS stand in the order in which each needs the next one's.
        x.step(0, COPY, 7, 6, 0);
        x.step(0, TAKE, 6, 2, 0);
        x.step(0, PUT, 2, 5, 0);
        x.step(0, LOAD, 5, 3, 1);
        x.step(0, STORE, 4, 1, 3);
        x.step(0, COPY, 4, 3, 0);
        x.call(0, 1, NONE, NONE, NONE, 3);
        x.step(1, GIVE, 4, 0, 0);
        x.step(1, COPY, 4, 3, 0);
        x.step(1, NEW, 3, 0, 0);
        due("points(0, 7)", x.points(0, 7), 1);
        due("field(0, 1)", x.field(0, 1), 1);
        due("place(2)", x.place(2), 1);
        x.clear();
        x.method();
        x.step(0, NEW, 3, 0, 0);
        x.step(0, NEW, 4, 0, 0);
        x.call(0, 1, 3, NONE, NONE, 5);
        x.call(0, 1, 4, NONE, NONE, 6);
        x.step(1, GIVE, 0, 0, 0);
        due("points(0, 5): all CALLS are as one", x.points(0, 5), 3);
        due("points(0, 6): all CALLS are as one", x.points(0, 6), 3);
    }

    private static void field() {
        promise = 10;
        EscapeOwners x = with(2);
        x.step(0, NEW, 3, 0, 0);
        x.step(0, NEW, 4, 0, 0);
        x.step(1, NEW, 3, 0, 0);
        x.step(1, STORE, 3, 0, 3);
        x.step(0, STORE, 3, 3, 4);
        x.step(0, COPY, 5, 3, 0);
        x.step(0, COPY, 5, 4, 0);
        x.step(0, STORE, 5, 1, 4);
        x.step(0, STORE, 5, 1, 3);
        due("field(0, 0)", x.field(0, 0), 0);
        due("field(0, 1)", x.field(0, 1), 3);
        due("field(0, 3)", x.field(0, 3), 2);
        due("field(1, 1)", x.field(1, 1), 3);
        due("field(1, 3)", x.field(1, 3), 0);
        due("field(2, 0), not LIVE", x.field(2, 0), 0);
        due("field(3, 0)", x.field(3, 0), BAD);
        due("field(-1, 0)", x.field(-1, 0), BAD);
        due("field(0, 4)", x.field(0, 4), BAD);
        due("field(0, -1)", x.field(0, -1), BAD);
        due("field(MIN, 0)", x.field(MIN, 0), BAD);
        due("field(0, MAX)", x.field(0, MAX), BAD);
    }

    private static void place() {
        promise = 11;
        EscapeOwners x = with(2);
        x.step(0, NEW, 3, 0, 0);
        x.step(0, NEW, 4, 0, 0);
        x.step(0, PUT, 3, 3, 0);
        x.step(0, PUT, 3, 4, 0);
        x.step(0, PUT, 1, 4, 0);
        x.step(1, NEW, 3, 0, 0);
        x.step(1, PUT, 0, 3, 0);
        due("place(0), not LIVE", x.place(0), 0);
        due("place(1)", x.place(1), 2);
        due("place(2)", x.place(2), 0);
        due("place(3)", x.place(3), 3);
        due("place(4)", x.place(4), BAD);
        due("place(-1)", x.place(-1), BAD);
        due("place(MIN)", x.place(MIN), BAD);
        due("place(MAX)", x.place(MAX), BAD);
    }

    private static void result() {
        promise = 12;
        EscapeOwners x = with(3);
        x.step(0, NEW, 3, 0, 0);
        x.step(0, GIVE, 3, 0, 0);
        x.step(1, NEW, 3, 0, 0);
        x.step(1, GIVE, 3, 0, 0);
        due("result(0)", x.result(0), 1);
        due("result(1), not LIVE", x.result(1), 0);
        due("result(2)", x.result(2), 0);
        x.call(0, 1, 3, NONE, NONE, NONE);
        x.step(1, GIVE, 0, 0, 0);
        due("result(1)", x.result(1), 3);
        due("result(0): r is NONE", x.result(0), 1);
        due("result(3)", x.result(3), BAD);
        due("result(-1)", x.result(-1), BAD);
        due("result(MIN)", x.result(MIN), BAD);
        due("result(MAX)", x.result(MAX), BAD);
    }

    private static void of() {
        promise = 13;
        EscapeOwners x = with(3);
        x.call(0, 2, NONE, NONE, NONE, NONE);
        x.step(2, NEW, 3, 0, 0);
        x.step(2, NEW, 4, 0, 0);
        x.step(0, NEW, 5, 0, 0);
        due("of(1, 0)", x.of(1, 0), 2);
        due("of(1, 1)", x.of(1, 1), 2);
        due("of(2, 0)", x.of(2, 0), 0);
        due("of(2, 1)", x.of(2, 1), 3);
        due("of(1, 2)", x.of(1, 2), NONE);
        due("of(1, 3)", x.of(1, 3), 0);
        due("of(1, 4)", x.of(1, 4), 0);
        due("of(1, 5)", x.of(1, 5), 4);
        due("of(1, 6)", x.of(1, 6), 0);
        x.step(2, STORE, 3, 0, 4);
        x.step(2, STORE, 3, 2, 4);
        x.step(2, STORE, 4, 1, 4);
        due("of(1, 3): pairs", x.of(1, 3), 3);
        due("of(1, 4)", x.of(1, 4), 3);
        due("of(1, 6)", x.of(1, 6), 4);
        x.call(2, 1, 4, NONE, NONE, NONE);
        due("of(1, 5)", x.of(1, 5), 6);
        x.step(1, STORE, 0, 0, 7);
        due("of(1, 6): a STORE of nothing", x.of(1, 6), 6);
        due("of(0, 6)", x.of(0, 6), 4);
        x.step(2, START, 3, 0, 0);
        due("of(0, 2)", x.of(0, 2), 0);
        due("of(1, 2)", x.of(1, 2), 1);
        due("of(2, 2)", x.of(2, 2), NONE);
        due("of(3, 0)", x.of(3, 0), BAD);
        due("of(-1, 0)", x.of(-1, 0), BAD);
        due("of(0, 7)", x.of(0, 7), BAD);
        due("of(0, -1)", x.of(0, -1), BAD);
        due("of(MIN, 0)", x.of(MIN, 0), BAD);
        due("of(0, MAX)", x.of(0, MAX), BAD);
    }

    private static void ofNotLive() {
        EscapeOwners x = with(2);
        x.step(1, COPY, 0, 0, 0);
        x.step(1, NEW, 3, 0, 0);
        x.step(1, STORE, 3, 0, 3);
        x.step(1, START, 3, 0, 0);
        int[] wants = {1, 1, NONE, 0, 0, 0, 0};
        for (int what = 0; what < 7; what++) {
            due("of(0, " + what + "), not LIVE", x.of(0, what), wants[what]);
        }
    }

    private static void meet() {
        promise = 14;
        EscapeOwners x = with(2);
        x.step(0, NEW, 3, 0, 0);
        x.step(0, NEW, 4, 0, 0);
        x.step(0, COPY, 5, 3, 0);
        x.step(0, COPY, 5, 4, 0);
        x.call(0, 1, NONE, 4, NONE, NONE);
        due("meet(0, 3, 0, 3)", x.meet(0, 3, 0, 3), 1);
        due("meet(0, 3, 0, 4)", x.meet(0, 3, 0, 4), 0);
        due("meet(0, 3, 0, 5)", x.meet(0, 3, 0, 5), 1);
        due("meet(0, 7, 0, 7), of nothing", x.meet(0, 7, 0, 7), 0);
        due("meet(0, 5, 1, 1)", x.meet(0, 5, 1, 1), 1);
        due("meet(1, 1, 0, 4)", x.meet(1, 1, 0, 4), 1);
        due("meet(1, 1, 0, 3)", x.meet(1, 1, 0, 3), 0);
        for (int n : new int[] {-1, 8, MIN, MAX}) {
            due("meet x " + n, x.meet(0, n, 0, 3), BAD);
            due("meet y " + n, x.meet(0, 3, 0, n), BAD);
        }
        for (int m : new int[] {-1, 2, MIN, MAX}) {
            due("meet m " + m, x.meet(m, 3, 0, 3), BAD);
            due("meet k " + m, x.meet(0, 3, m, 3), BAD);
        }
    }

    private static void reach() {
        promise = 15;
        EscapeOwners x = with(2);
        for (int i = 0; i < 5; i++) {
            x.step(0, NEW, 3 + i, 0, 0);
        }
        x.step(0, STORE, 3, 0, 4);
        x.step(0, STORE, 4, 3, 5);
        x.step(0, STORE, 5, 1, 4);
        x.step(0, STORE, 6, 2, 3);
        due("reach(0, 3)", x.reach(0, 3), 7);
        due("reach(0, 5)", x.reach(0, 5), 6);
        due("reach(0, 6)", x.reach(0, 6), 15);
        due("reach(0, 7)", x.reach(0, 7), 16);
        due("reach(0, 0)", x.reach(0, 0), 0);
        due("reach(1, 0)", x.reach(1, 0), 0);
        due("reach(2, 0)", x.reach(2, 0), BAD);
        due("reach(-1, 0)", x.reach(-1, 0), BAD);
        due("reach(0, 8)", x.reach(0, 8), BAD);
        due("reach(0, -1)", x.reach(0, -1), BAD);
        due("reach(MAX, 0)", x.reach(MAX, 0), BAD);
        due("reach(0, MIN)", x.reach(0, MIN), BAD);
    }

    private static void parameter() {
        promise = 16;
        EscapeOwners x = with(4);
        due("parameter(0, 0, 2)", x.parameter(0, 0, 2), 1);
        due("parameter(1, 0, 2), not LIVE", x.parameter(1, 0, 2), NONE);
        due("parameter(1, 3, 2), BAD first", x.parameter(1, 3, 2), BAD);
        due("parameter(1, 0, 3), BAD first", x.parameter(1, 0, 3), BAD);
        due("parameter(4, 0, 0)", x.parameter(4, 0, 0), BAD);
        due("parameter(-1, 0, 0)", x.parameter(-1, 0, 0), BAD);
        due("parameter(0, -1, 0)", x.parameter(0, -1, 0), BAD);
        due("parameter(0, 3, 0)", x.parameter(0, 3, 0), BAD);
        due("parameter(0, 0, -1)", x.parameter(0, 0, -1), BAD);
        due("parameter(0, 0, 3)", x.parameter(0, 0, 3), BAD);
        due("parameter(MIN, MIN, MIN)", x.parameter(MIN, MIN, MIN), BAD);
        x.step(0, COPY, 4, 3, 0);
        x.step(0, COPY, 3, 1, 0);
        x.step(0, LOAD, 5, 1, 0);
        due("parameter(0, 1, 2)", x.parameter(0, 1, 2), 3);
        due("parameter(0, 0, 2)", x.parameter(0, 0, 2), 1);
        x.call(0, 1, 0, 4, NONE, 6);
        due("parameter(0, 1, 2) with a CALL", x.parameter(0, 1, 2), 4);
        due("parameter(1, 1, 2)", x.parameter(1, 1, 2), 1);
        x.step(1, COPY, 7, 1, 0);
        x.step(1, GIVE, 7, 0, 0);
        due("parameter(0, 1, 2) with a RESULT", x.parameter(0, 1, 2), 6);
        due("parameter(1, 1, 2) marks its caller's r", x.parameter(1, 1, 2), 3);
        due("parameter(1, 0, 2)", x.parameter(1, 0, 2), 1);
        x.call(3, 1, NONE, NONE, NONE, 5);
        due("parameter(1, 1, 2): a caller that is not LIVE", x.parameter(1, 1, 2), 3);
        x.call(0, 1, NONE, NONE, NONE, NONE);
        due("parameter(1, 1, 2): a CALL without r", x.parameter(1, 1, 2), 3);
        x.call(0, 1, NONE, NONE, NONE, 7);
        due("parameter(1, 1, 2): all CALLS are as one", x.parameter(1, 1, 2), 4);
    }

    private static void parameterKept() {
        EscapeOwners x = with(3);
        x.call(0, 1, 0, NONE, NONE, NONE);
        due("parameter(0, 0, 0)", x.parameter(0, 0, 0), 0);
        x.step(1, STORE, 0, 0, 1);
        due("parameter(1, 0, 0): x of a STORE", x.parameter(1, 0, 0), 0);
        due("parameter(1, 1, 0): y of a STORE", x.parameter(1, 1, 0), 1);
        due("parameter(0, 0, 0)", x.parameter(0, 0, 0), 0);
        x.step(1, STORE, 1, 2, 0);
        due("parameter(0, 0, 0) by what is CALLED", x.parameter(0, 0, 0), 1);
        due("parameter(0, 1, 0)", x.parameter(0, 1, 0), 0);
        for (int kind : new int[] {START, HAND, LOCK, GIVE}) {
            x.clear();
            x.step(0, COPY, 5, 2, 0);
            x.step(0, kind, 5, 0, 0);
            due("parameter(0, 2, 0), KIND " + kind, x.parameter(0, 2, 0), kind == START || kind == HAND ? 1 : 0);
            due("parameter(0, 1, 0), KIND " + kind, x.parameter(0, 1, 0), 0);
        }
        x.clear();
        x.step(0, PUT, 1, 2, 0);
        due("parameter(0, 2, 0): x of a PUT", x.parameter(0, 2, 0), 1);
        due("parameter(0, 1, 0): s of a PUT", x.parameter(0, 1, 0), 0);
        x.clear();
        x.step(0, LOAD, 5, 0, 0);
        x.step(0, TAKE, 0, 0, 0);
        x.step(0, NEW, 0, 0, 0);
        x.step(0, STORE, 4, 0, 5);
        due("parameter(0, 0, 0): LOADED", x.parameter(0, 0, 0), 0);
        x.clear();
        x.method();
        x.method();
        x.call(0, 1, NONE, NONE, NONE, NONE);
        x.call(2, 1, 0, NONE, NONE, 3);
        x.step(2, HAND, 3, 0, 0);
        x.step(1, GIVE, 0, 0, 0);
        due("parameter(1, 0, 0): kept by what is not LIVE", x.parameter(1, 0, 0), 0);
    }

    private static void parameterBack() {
        EscapeOwners x = with(3);
        x.call(0, 1, 2, NONE, NONE, 5);
        due("parameter(0, 2, 1)", x.parameter(0, 2, 1), 0);
        x.step(1, GIVE, 0, 0, 0);
        due("parameter(1, 0, 1)", x.parameter(1, 0, 1), 1);
        due("parameter(1, 1, 1)", x.parameter(1, 1, 1), 0);
        due("parameter(0, 2, 1): what is CALLED GIVES it", x.parameter(0, 2, 1), 0);
        x.step(0, GIVE, 5, 0, 0);
        due("parameter(0, 2, 1)", x.parameter(0, 2, 1), 1);
        due("parameter(0, 1, 1)", x.parameter(0, 1, 1), 0);
    }

    private static void idle() {
        promise = 17;
        EscapeOwners x = with(2);
        x.step(0, LOCK, 3, 0, 0);
        x.step(1, LOCK, 3, 0, 0);
        x.step(1, NEW, 3, 0, 0);
        due("idle(0): of nothing", x.idle(0), 0);
        due("idle(1): not LIVE", x.idle(1), NONE);
        due("idle(2): no LOCK", x.idle(2), BAD);
        due("idle(3)", x.idle(3), BAD);
        due("idle(-1)", x.idle(-1), BAD);
        due("idle(MIN)", x.idle(MIN), BAD);
        due("idle(MAX)", x.idle(MAX), BAD);
        x.call(0, 1, NONE, NONE, NONE, NONE);
        due("idle(1)", x.idle(1), 1);
        due("idle(3): a CALL", x.idle(3), BAD);
        x.step(0, NEW, 3, 0, 0);
        due("idle(0)", x.idle(0), 1);
        x.step(0, NEW, 4, 0, 0);
        x.step(0, STORE, 4, 0, 3);
        due("idle(0): held", x.idle(0), 1);
        x.step(0, PUT, 0, 4, 0);
        due("idle(0): SHARED by a FIELD", x.idle(0), 0);
        due("idle(1)", x.idle(1), 1);
        x.call(0, 1, 3, NONE, NONE, NONE);
        x.step(1, COPY, 3, 0, 0);
        due("idle(1): one of two is SHARED", x.idle(1), 0);
    }

    private static void calls() {
        promise = 18;
        EscapeOwners x = with(5);
        x.call(0, 1, NONE, NONE, NONE, NONE);
        x.call(1, 2, NONE, NONE, NONE, NONE);
        x.call(2, 1, NONE, NONE, NONE, NONE);
        x.call(0, 3, NONE, NONE, NONE, NONE);
        due("calls(0, 0)", x.calls(0, 0), 2 | 8);
        due("calls(0, 1): not itself", x.calls(0, 1), 2 | 4 | 8);
        due("calls(0, 2)", x.calls(0, 2), 0);
        due("calls(1, 0)", x.calls(1, 0), 4);
        due("calls(1, 1): itself again", x.calls(1, 1), 2 | 4);
        due("calls(1, 2)", x.calls(1, 2), 1 | 4);
        due("calls(3, 0)", x.calls(3, 0), 0);
        due("calls(3, 1)", x.calls(3, 1), 0);
        due("calls(3, 2)", x.calls(3, 2), 1);
        x.call(3, 3, NONE, NONE, NONE, NONE);
        due("calls(3, 2): itself", x.calls(3, 2), 1 | 8);
        // What is not LIVE does not count.
        x.call(4, 3, NONE, NONE, NONE, NONE);
        due("calls(3, 2): METHOD 4 is not LIVE", x.calls(3, 2), 1 | 8);
        due("calls(4, 0), not LIVE", x.calls(4, 0), 0);
        due("calls(4, 1), not LIVE", x.calls(4, 1), 0);
        x.call(0, 4, NONE, NONE, NONE, NONE);
        due("calls(3, 2)", x.calls(3, 2), 1 | 8 | 16);
        due("calls(4, 0)", x.calls(4, 0), 8);
        due("calls(4, 1)", x.calls(4, 1), 8);
        for (int m : new int[] {-1, 5, MIN, MAX}) {
            due("calls(" + m + ", 0)", x.calls(m, 0), BAD);
        }
        for (int what : new int[] {-1, 3, MIN, MAX}) {
            due("calls(0, " + what + ")", x.calls(0, what), BAD);
        }
    }

    private static void refusedChangesNothing() {
        promise = 4;
        EscapeOwners x = with(8);
        for (int i = 0; i < 16; i++) {
            x.step(0, NEW, 3, 0, 0);
        }
        x.step(0, NEW, 4, 0, 0);
        x.step(0, PUT, 4, 3, 0);
        x.step(8, PUT, 0, 3, 0);
        x.call(0, 8, 3, 3, 3, 3);
        x.call(0, 1, 3, 8, 3, 3);
        x.method();
        due("all(0)", x.all(0), 8);
        due("all(1)", x.all(1), 16);
        due("all(2)", x.all(2), 16);
        due("all(3)", x.all(3), 1);
        due("all(5)", x.all(5), 0);
        due("points(0, 4)", x.points(0, 4), 0);
        due("points(0, 3)", x.points(0, 3), 0xffff);
    }

    /** The last METHOD, NAME, SITE, FIELD and PLACE count as the others do. */
    private static void lastOfAll() {
        promise = 8;
        EscapeOwners x = with(8);
        for (int i = 0; i < 15; i++) {
            x.step(0, NEW, 3, 0, 0);
        }
        x.call(0, 7, NONE, NONE, 3, 6);
        x.step(7, NEW, 7, 0, 0);
        x.step(7, GIVE, 7, 0, 0);
        due("all(10)", x.all(10), 1 << 7);
        due("all(9)", x.all(9), 1 | 1 << 7);
        due("all(6)", x.all(6), 1 << 15);
        due("points(0, 6)", x.points(0, 6), 1 << 15);
        x.step(7, STORE, 7, 3, 2);
        x.step(7, LOAD, 6, 7, 3);
        due("field(15, 3)", x.field(15, 3), 0x7fff);
        due("points(7, 6)", x.points(7, 6), 0x7fff);
        due("all(7)", x.all(7), 0x7fff);
        due("of(0, 3)", x.of(0, 3), 1);
        due("of(0, 4)", x.of(0, 4), 1 << 15);
        due("of(15, 5)", x.of(15, 5), 1 | 1 << 7);
        due("of(15, 6)", x.of(15, 6), 1 << 7);
        due("calls(7, 2)", x.calls(7, 2), 1);
        x.step(7, STORE, 2, 3, 7);
        due("all(8)", x.all(8), 1 << 15);
        due("all(9)", x.all(9), 1);
        due("all(10)", x.all(10), 0);
        due("of(15, 3)", x.of(15, 3), 15);
        x.undo();
        x.step(7, PUT, 3, 7, 0);
        due("all(5)", x.all(5), 0xffff);
        due("all(12)", x.all(12), 1);
        due("place(3)", x.place(3), 1 << 15);
        x.step(7, COPY, 7, 2, 0);
        due("parameter(7, 2, 2)", x.parameter(7, 2, 2), 3);
        due("parameter(7, 2, 1)", x.parameter(7, 2, 1), 1);
        due("parameter(7, 2, 0)", x.parameter(7, 2, 0), 1);
    }
}
