/**
 * Each sentence of the document that names a boundary case, with a test of its own: the last number
 * within the bounds and the first beyond them, what is empty, what is full, what is not LIVE.
 */
public final class EscapeOwnersBounds {
    private static final int NONE = EscapeOwners.NONE, BAD = EscapeOwners.BAD, FULL = EscapeOwners.FULL;
    private static final int NEW = 0, COPY = 1, LOAD = 2, STORE = 3, TAKE = 4, PUT = 5;
    private static final int CALL = 6, GIVE = 7, START = 8, HAND = 9, LOCK = 10;
    private static final int MIN = Integer.MIN_VALUE, MAX = Integer.MAX_VALUE;
    private static final int ALL_SITES = 0xffff, ALL_METHODS = 0xff;

    private static int wrong = 0;
    private static String sentence = "";

    public static void main(String[] args) {
        terms();
        kindsOfNothing();
        liveAndLeast();
        sharedAndOut();
        heldAndWritten();
        marks();
        freshAndPure();
        refusals();
        changes();
        questions();
        System.out.println(wrong == 0 ? "all answers are as due" : wrong + " answers are not as due");
        if (wrong != 0) {
            System.exit(1);
        }
    }

    private static void terms() {
        callsOfOneObject();
        namesOfEachMethod();
        numbersOfMethods();
        parametersAreThree();
        stepsAreSixtyFour();
        sitesAreSixteen();
        sitesAndStepsBothFull();
        fieldsAreFour();
        placesAreFour();
    }

    private static void kindsOfNothing() {
        copyOfNothing();
        loadOfNothing();
        storeOfNothing();
        takeAndPutOfNothing();
        callWithNone();
        callOfItself();
        giveOfNothing();
        startAndHandOfNothing();
        lockOfNothing();
    }

    private static void liveAndLeast() {
        methodZeroIsLive();
        liveByCalls();
        longestWayBackward();
        longestWayOfResults();
        leastMeansNoMore();
        fullOfEverything();
        notLiveDoesNotCount();
    }

    private static void sharedAndOut() {
        levelZero();
        levelsToFifteen();
        leastLevelCounts();
        outBySharing();
        outByResultOrParameter();
        outByFields();
        outIsOfItsOwnMethod();
    }

    private static void heldAndWritten() {
        holdersFromNoneToAll();
        ownedHasJustOneHolder();
        ownedHasNoPlace();
        fixedByItsOwnMethod();
        idleLocks();
    }

    private static void marks() {
        markedFromOneToAll();
        markedByCallsPlaceByPlace();
        markedIsNotLoaded();
        keptByEachKind();
        backByItsOwnMethod();
    }

    private static void freshAndPure() {
        freshPointsToSomething();
        freshIsMadeThere();
        freshIsSeenByNone();
        pureDoesNone();
        pureWithWhatItCalls();
        pureStores();
    }

    private static void refusals() {
        badBeforeFull();
        badBeforeNone();
        refusedNumbersAreNotUsedUp();
        setsAreNumbers();
    }

    private static void changes() {
        newObject();
        clearTellsSteps();
        methodsAreEight();
        othersDoNotCount();
        undoFromFullToNone();
        undoOfEachKind();
        undoKeepsMethods();
    }

    private static void questions() {
        toldOfEachKind();
        toldFirstAndLast();
        allOfNothing();
        pointsOfWhatIsNotLive();
        fieldOfFirstAndLast();
        placeHoldsMany();
        resultOfNothing();
        ofASiteOfItsOwn();
        ofASiteOfAll();
        meetOfNothing();
        reachOfNoneOneAndMore();
        parameterOfWhatIsNotLive();
        idleOfWhatIsNotLive();
        callsOfNone();
        callsOfAll();
    }

    private static void says(String text) {
        sentence = text;
    }

    private static void due(String call, int got, int want) {
        if (got != want) {
            wrong++;
            System.out.println("\"" + sentence + "\": " + call + " answered " + got + ", due is " + want);
        }
    }

    /** An object with some METHODS, METHOD 0 included. */
    private static EscapeOwners with(int methods) {
        EscapeOwners x = new EscapeOwners();
        for (int i = 1; i < methods; i++) {
            x.method();
        }
        return x;
    }

    /** An object with some METHODS, each CALLED by the one before it: STEPS 0 to methods - 2. */
    private static EscapeOwners chain(int methods) {
        EscapeOwners x = with(methods);
        for (int m = 0; m + 1 < methods; m++) {
            call(x, m, m + 1);
        }
        return x;
    }

    private static int call(EscapeOwners x, int m, int to) {
        return x.call(m, to, NONE, NONE, NONE, NONE);
    }

    private static int step(EscapeOwners x, int m, int kind, int a) {
        return x.step(m, kind, a, 0, 0);
    }

    // ---- Terms: the bounds

    private static void callsOfOneObject() {
        says("An object is used for at most 512 calls after it has been made");
        EscapeOwners x = new EscapeOwners();
        for (int i = 0; i < 255; i++) {
            due("NEW, call " + (2 * i + 1), step(x, 0, NEW, 7), 0);
            due("undo(), call " + (2 * i + 2), x.undo(), 0);
        }
        due("NEW, call 511", step(x, 0, NEW, 7), 0);
        due("points(0, 7), call 512", x.points(0, 7), 1);
        EscapeOwners y = with(8);
        for (int i = 7; i < 71; i++) {
            due("LOCK, call " + (i + 1), step(y, i % 8, LOCK, 7), i - 7);
        }
        for (int i = 71; i < 510; i++) {
            due("all(9), call " + (i + 1), y.all(9), 1);
        }
        due("undo(), call 511", y.undo(), 63);
        due("all(1), call 512", y.all(1), 63);
    }

    private static void namesOfEachMethod() {
        says("METHODS 0 .. 7 each have NAMES 0 .. 7");
        for (int m = 0; m < 8; m++) {
            for (int x = 0; x < 8; x++) {
                EscapeOwners o = chain(8);
                due("NEW", step(o, m, NEW, x), 7);
                for (int i = 0; i < 64; i++) {
                    due("points(" + i / 8 + ", " + i % 8 + ")", o.points(i / 8, i % 8), i == m * 8 + x ? 1 : 0);
                }
                due("of(0, 5) of NEW " + x + " in METHOD " + m, o.of(0, 5), 1 << m);
                due("all(6) of NEW " + x + " in METHOD " + m, o.all(6), x < 3 ? 1 : 0);
            }
            EscapeOwners o = chain(8);
            due("NEW 8", step(o, m, NEW, 8), BAD);
            due("NEW -1", step(o, m, NEW, -1), BAD);
            due("points of NAME 8", o.points(m, 8), BAD);
            due("points of NAME -1", o.points(m, -1), BAD);
        }
    }

    private static void numbersOfMethods() {
        says("BAD (a number is none, or out of its bounds): METHODS");
        for (int methods = 1; methods <= 8; methods++) {
            EscapeOwners x = with(methods);
            due("step in the last of " + methods, step(x, methods - 1, NEW, 0), 0);
            due("step in the one after", step(x, methods, NEW, 0), BAD);
            due("call of the last", call(x, 0, methods - 1), 1);
            due("call of the one after", call(x, 0, methods), BAD);
            due("call in the last", call(x, methods - 1, 0), 2);
            due("call in the one after", call(x, methods, 0), BAD);
            due("points of the last", x.points(methods - 1, 0), 1);
            due("points of the one after", x.points(methods, 0), BAD);
            due("result of the one after", x.result(methods), BAD);
            due("reach of the one after", x.reach(methods, 0), BAD);
            due("meet of the one after", x.meet(methods, 0, 0, 0), BAD);
            due("meet with the one after", x.meet(0, 0, methods, 0), BAD);
            due("parameter of the one after", x.parameter(methods, 0, 0), BAD);
            due("calls of the one after", x.calls(methods, 0), BAD);
        }
    }

    private static void parametersAreThree() {
        says("NAMES 0 .. 7, of which 0 .. 2 are PARAMETERS");
        EscapeOwners x = with(2);
        for (int i = 0; i < 8; i++) {
            step(x, 0, NEW, i);
        }
        x.call(0, 1, 5, 6, 7, NONE);
        for (int i = 0; i < 8; i++) {
            due("points(1, " + i + ")", x.points(1, i), i < 3 ? 1 << (5 + i) : 0);
        }
        for (int i = 0; i < 8; i++) {
            EscapeOwners y = chain(2);
            step(y, 1, NEW, i);
            due("all(6) of NEW " + i, y.all(6), i < 3 ? 1 : 0);
            step(y, 1, GIVE, i);
            due("all(10) of GIVE " + i, y.all(10), i < 3 ? 0 : 2);
        }
        for (int p = 0; p < 3; p++) {
            due("parameter(1, " + p + ", 2)", x.parameter(1, p, 2), 1);
        }
        due("parameter(1, 3, 2)", x.parameter(1, 3, 2), BAD);
        due("parameter(1, 7, 2)", x.parameter(1, 7, 2), BAD);
        due("parameter(1, -1, 2)", x.parameter(1, -1, 2), BAD);
    }

    private static void stepsAreSixtyFour() {
        says("STEPS, 64 in all, numbered as they come");
        EscapeOwners x = with(8);
        for (int i = 0; i < 64; i++) {
            due("COPY", step(x, i % 8, COPY, i / 8), i);
        }
        for (int i = 0; i < 64; i++) {
            due("told(" + i + ", 0)", x.told(i, 0), i % 8);
            due("told(" + i + ", 3)", x.told(i, 3), i / 8);
        }
        for (int kind = NEW; kind <= LOCK; kind++) {
            due("a 65th of KIND " + kind, step(x, 7, kind, 3), kind == CALL ? BAD : FULL);
        }
        due("a 65th, a CALL", call(x, 0, 7), FULL);
        due("all(1)", x.all(1), 64);
        due("undo()", x.undo(), 63);
        due("a CALL in its place", call(x, 0, 7), 63);
        due("told(63, 1)", x.told(63, 1), CALL);
        due("a 65th again", step(x, 0, COPY, 0), FULL);
        due("clear()", x.clear(), 64);
        due("the first again", step(x, 0, COPY, 0), 0);
    }

    private static void sitesAreSixteen() {
        says("16 SITES at most, numbered as they come");
        EscapeOwners x = chain(2);
        for (int i = 0; i < 16; i++) {
            due("LOCK", step(x, 0, LOCK, 0), 1 + 2 * i);
            due("NEW", step(x, i % 2, NEW, i / 2), 2 + 2 * i);
            due("told its SITE", x.told(2 + 2 * i, 2), i);
            due("told the SITE of what makes none", x.told(1 + 2 * i, 2), NONE);
            due("of(" + i + ", 1)", x.of(i, 1), 2 + 2 * i);
            due("of the SITE after", x.of(i + 1, 1), BAD);
        }
        due("a 17th", step(x, 0, NEW, 0), FULL);
        due("a 17th in another METHOD", step(x, 1, NEW, 7), FULL);
        due("another KIND", step(x, 0, LOCK, 0), 33);
        due("all(2)", x.all(2), 16);
        due("points(1, 7)", x.points(1, 7), 1 << 15);
        due("undo() of the LOCK", x.undo(), 33);
        due("a 17th still", step(x, 0, NEW, 0), FULL);
        due("undo() of the 16th", x.undo(), 32);
        due("all(2)", x.all(2), 15);
        due("a 16th in another METHOD", step(x, 0, NEW, 0), 32);
        due("of(15, 0)", x.of(15, 0), 0);
        due("points(0, 0)", x.points(0, 0), 1 | 1 << 15);
        due("points(1, 7)", x.points(1, 7), 0);
        due("a 17th", step(x, 0, NEW, 0), FULL);
    }

    private static void sitesAndStepsBothFull() {
        says("FULL: 64 STEPS, or a 17th SITE");
        EscapeOwners x = new EscapeOwners();
        for (int i = 0; i < 16; i++) {
            step(x, 0, NEW, 3);
        }
        for (int i = 16; i < 64; i++) {
            due("LOCK", step(x, 0, LOCK, 3), i);
        }
        due("NEW, both full", step(x, 0, NEW, 3), FULL);
        due("LOCK, both full", step(x, 0, LOCK, 3), FULL);
        x.undo();
        due("NEW, SITES full", step(x, 0, NEW, 3), FULL);
        due("LOCK, SITES full", step(x, 0, LOCK, 3), 63);
        x.clear();
        for (int i = 0; i < 63; i++) {
            step(x, 0, LOCK, 3);
        }
        due("NEW as the 64th", step(x, 0, NEW, 3), 63);
        due("told(63, 2)", x.told(63, 2), 0);
        due("NEW as the 65th", step(x, 0, NEW, 3), FULL);
        due("all(2)", x.all(2), 1);
        due("all(11)", x.all(11), 63);
    }

    private static void fieldsAreFour() {
        says("FIELDS 0 .. 3");
        int[] loaded = {5, 6, 7, 0};
        for (int f = 0; f < 4; f++) {
            EscapeOwners x = new EscapeOwners();
            step(x, 0, NEW, 3);
            step(x, 0, NEW, 4);
            due("STORE 3, " + f + ", 4", x.step(0, STORE, 3, f, 4), 2);
            for (int g = 0; g < 4; g++) {
                due("LOAD of FIELD " + g, x.step(0, LOAD, loaded[g], 3, g), 3 + g);
                due("field(0, " + g + ")", x.field(0, g), g == f ? 2 : 0);
                due("points of FIELD " + g, x.points(0, loaded[g]), g == f ? 2 : 0);
                due("field(1, " + g + ")", x.field(1, g), 0);
            }
            due("of(1, 3)", x.of(1, 3), 1);
            due("of(1, 4): the SITE before it alone", x.of(1, 4), 1);
        }
        fieldsOfNeighbours();
        EscapeOwners x = new EscapeOwners();
        step(x, 0, NEW, 3);
        for (int f : new int[] {-1, 4, 7, MIN, MAX}) {
            due("STORE to FIELD " + f, x.step(0, STORE, 3, f, 3), BAD);
            due("LOAD of FIELD " + f, x.step(0, LOAD, 3, 3, f), BAD);
            due("field(0, " + f + ")", x.field(0, f), BAD);
        }
    }

    /** The FIELDS of a SITE are not taken for those of the SITE before it or after it. */
    private static void fieldsOfNeighbours() {
        for (int f = 0; f < 4; f++) {
            EscapeOwners x = new EscapeOwners();
            for (int i = 0; i < 4; i++) {
                step(x, 0, NEW, 3 + i);
            }
            x.step(0, STORE, 4, f, 6);
            due("reach(0, 3)", x.reach(0, 3), 1);
            due("reach(0, 4) by FIELD " + f, x.reach(0, 4), 10);
            due("reach(0, 5)", x.reach(0, 5), 4);
            due("of(3, 4)", x.of(3, 4), 2);
            for (int i = 0; i < 3; i++) {
                step(x, 0, HAND, 3 + i);
                due("of(3, 2): SITE " + i + " is HANDED", x.of(3, 2), i == 1 ? 1 : NONE);
                x.undo();
            }
        }
    }

    private static void placesAreFour() {
        says("PLACES 0 .. 3 (for all)");
        for (int s = 0; s < 4; s++) {
            EscapeOwners x = chain(2);
            step(x, 0, NEW, 3);
            due("PUT " + s + ", 3", x.step(0, PUT, s, 3, 0), 2);
            for (int t = 0; t < 4; t++) {
                due("TAKE in another METHOD", x.step(1, TAKE, 4 + t, t, 0), 3 + t);
                due("place(" + t + ")", x.place(t), t == s ? 1 : 0);
                due("points(1, " + (4 + t) + ")", x.points(1, 4 + t), t == s ? 1 : 0);
            }
        }
        EscapeOwners x = new EscapeOwners();
        for (int s : new int[] {-1, 4, 7, MIN, MAX}) {
            due("PUT to PLACE " + s, x.step(0, PUT, s, 3, 0), BAD);
            due("TAKE from PLACE " + s, x.step(0, TAKE, 3, s, 0), BAD);
            due("place(" + s + ")", x.place(s), BAD);
        }
    }

    // ---- Terms: each KIND, of nothing

    private static void copyOfNothing() {
        says("1 COPY x, y: x to what y does");
        EscapeOwners x = new EscapeOwners();
        x.step(0, COPY, 3, 4, 0);
        due("points(0, 3) of nothing", x.points(0, 3), 0);
        x.step(0, COPY, 4, 3, 0);
        x.step(0, COPY, 5, 5, 0);
        due("points(0, 4) of each other", x.points(0, 4), 0);
        due("points(0, 5) of itself", x.points(0, 5), 0);
        step(x, 0, NEW, 5);
        due("points(0, 5) of itself", x.points(0, 5), 1);
        step(x, 0, NEW, 4);
        due("points(0, 3)", x.points(0, 3), 2);
    }

    private static void loadOfNothing() {
        says("2 LOAD x, y, f: x to what FIELD f of what y points to does");
        EscapeOwners x = new EscapeOwners();
        x.step(0, LOAD, 3, 4, 0);
        due("points(0, 3): y points to nothing", x.points(0, 3), 0);
        step(x, 0, NEW, 4);
        due("points(0, 3): the FIELD points to nothing", x.points(0, 3), 0);
        x.step(0, STORE, 4, 0, 4);
        due("points(0, 3): the FIELD points to its own SITE", x.points(0, 3), 1);
        x.clear();
        // A list walked by LOAD x, x: all that hangs on the first is come to.
        for (int i = 0; i < 4; i++) {
            step(x, 0, NEW, i);
        }
        x.step(0, STORE, 0, 3, 1);
        x.step(0, STORE, 1, 3, 2);
        x.step(0, STORE, 2, 2, 3);
        x.step(0, COPY, 7, 0, 0);
        x.step(0, LOAD, 7, 7, 3);
        due("points(0, 7): as far as the FIELD goes", x.points(0, 7), 7);
    }

    private static void storeOfNothing() {
        says("3 STORE x, f, y: FIELD f of what x points to, to what y does");
        EscapeOwners x = new EscapeOwners();
        step(x, 0, NEW, 3);
        x.step(0, STORE, 4, 0, 3);
        due("of(0, 3): x points to nothing", x.of(0, 3), 0);
        due("of(0, 6): x points to nothing", x.of(0, 6), 0);
        x.step(0, STORE, 3, 0, 4);
        due("field(0, 0): y points to nothing", x.field(0, 0), 0);
        due("of(0, 6): y points to nothing", x.of(0, 6), 1);
        x.step(0, STORE, 3, 0, 3);
        due("field(0, 0): x is y", x.field(0, 0), 1);
    }

    private static void takeAndPutOfNothing() {
        says("4 TAKE x, s: x to what PLACE s does. 5 PUT s, x: PLACE s to what x does");
        EscapeOwners x = new EscapeOwners();
        x.step(0, TAKE, 3, 2, 0);
        due("points(0, 3) from an empty PLACE", x.points(0, 3), 0);
        x.step(0, PUT, 2, 3, 0);
        due("place(2): of nothing", x.place(2), 0);
        due("all(5)", x.all(5), 0);
        step(x, 0, NEW, 3);
        due("place(2)", x.place(2), 1);
        due("points(0, 3)", x.points(0, 3), 1);
    }

    private static void callWithNone() {
        says("what x, y, z do (NONE: not told), NAME r (NONE: none)");
        for (int told = 0; told < 16; told++) {
            EscapeOwners x = with(2);
            for (int i = 0; i < 3; i++) {
                step(x, 0, NEW, 3 + i);
            }
            step(x, 1, NEW, 7);
            step(x, 1, GIVE, 7);
            int[] names = new int[4];
            for (int i = 0; i < 4; i++) {
                names[i] = (told >> i & 1) != 0 ? 3 + i : NONE;
            }
            due("call", x.call(0, 1, names[0], names[1], names[2], names[3]), 5);
            for (int i = 0; i < 3; i++) {
                due("points(1, " + i + ") of " + told, x.points(1, i), names[i] == NONE ? 0 : 1 << i);
                due("told(5, " + (4 + i) + ") of " + told, x.told(5, 4 + i), names[i]);
            }
            due("points(0, 6) of " + told, x.points(0, 6), names[3] == NONE ? 0 : 8);
            due("told(5, 7) of " + told, x.told(5, 7), names[3]);
            for (int i = 0; i < 3; i++) {
                due("points(0, " + (3 + i) + ")", x.points(0, 3 + i), 1 << i);
            }
        }
        EscapeOwners x = with(2);
        due("call with x -2", x.call(0, 1, -2, NONE, NONE, NONE), BAD);
        due("call with y -2", x.call(0, 1, NONE, -2, NONE, NONE), BAD);
        due("call with z -2", x.call(0, 1, NONE, NONE, -2, NONE), BAD);
        due("call with r -2", x.call(0, 1, NONE, NONE, NONE, -2), BAD);
        due("call of NONE", x.call(0, NONE, 0, 0, 0, 0), BAD);
        due("call in NONE", x.call(NONE, 0, 0, 0, 0, 0), BAD);
    }

    private static void callOfItself() {
        says("6 CALL m, x, y, z, r: a METHOD that CALLS itself");
        EscapeOwners x = new EscapeOwners();
        step(x, 0, NEW, 3);
        due("call", x.call(0, 0, 3, NONE, 0, 4), 1);
        due("points(0, 0)", x.points(0, 0), 1);
        due("points(0, 1)", x.points(0, 1), 0);
        due("points(0, 2): by PARAMETER 0", x.points(0, 2), 1);
        due("points(0, 4): no RESULT yet", x.points(0, 4), 0);
        step(x, 0, GIVE, 2);
        due("points(0, 4)", x.points(0, 4), 1);
        due("calls(0, 0)", x.calls(0, 0), 1);
        due("calls(0, 2)", x.calls(0, 2), 1);
    }

    private static void giveOfNothing() {
        says("7 GIVE x: the METHOD'S RESULT to what x does");
        EscapeOwners x = with(2);
        x.call(0, 1, NONE, NONE, NONE, 3);
        step(x, 1, GIVE, 3);
        due("result(1) of nothing", x.result(1), 0);
        due("points(0, 3) of nothing", x.points(0, 3), 0);
        step(x, 1, NEW, 3);
        step(x, 1, NEW, 4);
        due("result(1)", x.result(1), 1);
        step(x, 1, GIVE, 4);
        due("result(1) of two GIVES", x.result(1), 3);
        due("points(0, 3) of two GIVES", x.points(0, 3), 3);
        due("result(0): it GIVES nothing", x.result(0), 0);
    }

    private static void startAndHandOfNothing() {
        says("a STEP STARTS or HANDS what points to it");
        for (int kind = START; kind <= HAND; kind++) {
            EscapeOwners x = new EscapeOwners();
            step(x, 0, kind, 3);
            due("all(5) of nothing", x.all(5), 0);
            due("all(12) of nothing", x.all(12), NONE);
            step(x, 0, NEW, 3);
            step(x, 0, NEW, 4);
            due("all(5)", x.all(5), 1);
            due("all(12)", x.all(12), 0);
            due("of(0, 2)", x.of(0, 2), 0);
            due("of(1, 2)", x.of(1, 2), NONE);
            for (int s = 0; s < 4; s++) {
                due("place(" + s + ")", x.place(s), 0);
            }
        }
    }

    private static void lockOfNothing() {
        says("10 LOCK x, and: A LOCK is IDLE, if its NAME points to something");
        EscapeOwners x = new EscapeOwners();
        step(x, 0, LOCK, 3);
        due("idle(0) of nothing", x.idle(0), 0);
        due("all(11) of nothing", x.all(11), 0);
        step(x, 0, NEW, 3);
        due("idle(0)", x.idle(0), 1);
        due("all(11)", x.all(11), 1);
        due("all(5): a LOCK shares nothing", x.all(5), 0);
        due("all(9): a LOCK changes nothing", x.all(9), 1);
    }

    // ---- LIVE, and the least sets

    private static void methodZeroIsLive() {
        says("LIVE are METHOD 0 ..");
        EscapeOwners x = with(8);
        due("all(3) of a METHOD 0 that none CALLS", x.all(3), 1);
        call(x, 7, 0);
        call(x, 7, 7);
        due("all(3): a CALL by what is not LIVE", x.all(3), 1);
        due("parameter(0, 0, 2)", x.parameter(0, 0, 2), 1);
        due("parameter(7, 0, 2): it CALLS itself alone", x.parameter(7, 0, 2), NONE);
    }

    private static void liveByCalls() {
        says(".. and what STEPS of LIVE METHODS CALL");
        EscapeOwners x = with(8);
        // The CALLS are told from the last to the first: all are LIVE with the last of them.
        for (int m = 6; m >= 1; m--) {
            call(x, m, m + 1);
            step(x, m + 1, NEW, 7);
            due("all(3) before METHOD 0 CALLS", x.all(3), 1);
            due("all(4) before METHOD 0 CALLS", x.all(4), 0);
        }
        call(x, 0, 1);
        due("all(3)", x.all(3), ALL_METHODS);
        due("all(4)", x.all(4), 0x3f);
        due("undo()", x.undo(), 12);
        due("all(3) after undo", x.all(3), 1);
        due("all(4) after undo", x.all(4), 0);
        call(x, 0, 5);
        due("all(3) from METHOD 5 on", x.all(3), 1 | 0xe0);
        due("all(4) from METHOD 5 on", x.all(4), 7);
        call(x, 7, 4);
        due("all(3) from METHOD 4 on", x.all(3), 1 | 0xf0);
    }

    private static void longestWayBackward() {
        says("the least sets .. (in whatever order they are done)");
        EscapeOwners x = with(8);
        // One SITE goes through all 64 NAMES, by 64 STEPS that are told from the last to the first.
        for (int m = 7; m >= 0; m--) {
            if (m < 7) {
                x.call(m, m + 1, 7, NONE, NONE, NONE);
            }
            for (int name = 7; name >= 1; name--) {
                x.step(m, COPY, name, name - 1, 0);
            }
        }
        due("the NEW, as the 64th STEP", step(x, 0, NEW, 0), 63);
        for (int i = 0; i < 64; i++) {
            due("points(" + i / 8 + ", " + i % 8 + ")", x.points(i / 8, i % 8), 1);
        }
        due("of(0, 5)", x.of(0, 5), ALL_METHODS);
        due("parameter(0, 0, 2): all are MARKED", x.parameter(0, 0, 2), 64);
        due("parameter(7, 0, 2)", x.parameter(7, 0, 2), 8);
        due("undo() of the NEW", x.undo(), 63);
        due("points(7, 7) of nothing", x.points(7, 7), 0);
        x.clear();
        // The same by FIELDS: each STORE and LOAD needs the one that is told after it.
        for (int f = 3; f >= 0; f--) {
            x.step(0, LOAD, f + 4, f + 3, f);
            x.step(0, STORE, f + 3, f, f + 3);
        }
        step(x, 0, NEW, 3);
        for (int f = 0; f < 4; f++) {
            due("field(0, " + f + ")", x.field(0, f), 1);
            due("points(0, " + (4 + f) + ")", x.points(0, 4 + f), 1);
        }
    }

    private static void longestWayOfResults() {
        says("the least sets .. (in whatever order they are done): RESULTS");
        EscapeOwners x = with(8);
        // What METHOD 7 makes is given back through all METHODS, each GIVE told before its CALL.
        for (int m = 0; m < 7; m++) {
            step(x, m, GIVE, 7);
            x.call(m, m + 1, NONE, NONE, NONE, 7);
        }
        step(x, 7, GIVE, 0);
        due("parameter(7, 0, 2): r of each METHOD", x.parameter(7, 0, 2), 8);
        due("parameter(7, 0, 1)", x.parameter(7, 0, 1), 1);
        due("result(0) of nothing", x.result(0), 0);
        step(x, 7, NEW, 0);
        for (int m = 0; m < 8; m++) {
            due("result(" + m + ")", x.result(m), 1);
            due("points(" + m + ", 7)", x.points(m, 7), m == 7 ? 0 : 1);
            due("points(" + m + ", 0)", x.points(m, 0), m == 7 ? 1 : 0);
        }
    }

    private static void leastMeansNoMore() {
        says("All POINTS are the least sets of SITES so that all STEPS .. are as told");
        EscapeOwners x = chain(2);
        step(x, 0, NEW, 7);
        x.step(0, COPY, 3, 4, 0);
        x.step(0, COPY, 4, 3, 0);
        x.step(0, STORE, 3, 0, 4);
        x.step(0, LOAD, 5, 3, 0);
        x.step(0, PUT, 0, 5, 0);
        x.step(0, TAKE, 3, 0, 0);
        x.call(0, 1, 3, 4, 5, 6);
        x.step(1, GIVE, 0, 0, 0);
        x.step(0, COPY, 3, 6, 0);
        for (int i = 0; i < 7; i++) {
            due("points(0, " + i + ") of a ring of nothing", x.points(0, i), 0);
        }
        due("points(1, 0)", x.points(1, 0), 0);
        due("place(0)", x.place(0), 0);
        due("result(1)", x.result(1), 0);
        due("points(0, 7)", x.points(0, 7), 1);
        x.step(0, COPY, 4, 7, 0);
        for (int i = 3; i < 7; i++) {
            due("points(0, " + i + ") of a ring of one", x.points(0, i), 1);
        }
        due("points(1, 2)", x.points(1, 2), 1);
        due("result(1)", x.result(1), 1);
    }

    private static void fullOfEverything() {
        says("sets of SITES, at their greatest");
        EscapeOwners x = with(8);
        for (int i = 0; i < 16; i++) {
            step(x, 0, NEW, 3);
        }
        for (int f = 0; f < 4; f++) {
            x.step(0, STORE, 3, f, 3);
            x.step(0, PUT, f, 3, 0);
        }
        for (int m = 0; m < 8; m++) {
            x.call(m, (m + 1) % 8, 3, 3, 3, 4);
            x.step(m, COPY, 3, 0, 0);
            x.step(m, GIVE, 3, 0, 0);
        }
        for (int f = 0; f < 4; f++) {
            due("field(15, " + f + ")", x.field(15, f), ALL_SITES);
            due("place(" + f + ")", x.place(f), ALL_SITES);
        }
        for (int m = 0; m < 8; m++) {
            due("result(" + m + ")", x.result(m), ALL_SITES);
            due("points(" + m + ", 4)", x.points(m, 4), ALL_SITES);
            due("reach(" + m + ", 0)", x.reach(m, 0), ALL_SITES);
            due("meet(" + m + ", 2, 7, 3)", x.meet(m, 2, 7, 3), 1);
            due("calls(" + m + ", 1)", x.calls(m, 1), ALL_METHODS);
        }
        int[] wants = {8, 48, 16, ALL_METHODS, ALL_SITES, ALL_SITES, ALL_SITES, 0, ALL_SITES, 0, 0, 0, 0};
        for (int what = 0; what < wants.length; what++) {
            due("all(" + what + ")", x.all(what), wants[what]);
        }
    }

    private static void notLiveDoesNotCount() {
        says("all that follows is of LIVE METHODS, SITES and STEPS alone");
        EscapeOwners x = with(3);
        step(x, 0, NEW, 3);
        step(x, 0, LOCK, 3);
        // METHOD 1 does all that could change an answer, and CALLS the others; none CALLS it.
        step(x, 1, NEW, 3);
        x.step(1, STORE, 3, 0, 3);
        x.step(1, PUT, 0, 3, 0);
        step(x, 1, START, 3);
        step(x, 1, HAND, 3);
        step(x, 1, LOCK, 3);
        step(x, 1, GIVE, 3);
        x.call(1, 0, 3, 3, 3, 4);
        x.call(1, 2, 3, 3, 3, 4);
        step(x, 2, GIVE, 0);
        int[] wants = {3, 12, 2, 1, 1, 0, 0, 0, 1, 1, 0, 1, NONE};
        for (int what = 0; what < wants.length; what++) {
            due("all(" + what + ")", x.all(what), wants[what]);
        }
        for (int m = 0; m < 3; m++) {
            for (int i = 0; i < 8; i++) {
                due("points(" + m + ", " + i + ")", x.points(m, i), m == 0 && i == 3 ? 1 : 0);
            }
            due("result(" + m + ")", x.result(m), 0);
        }
        due("place(0)", x.place(0), 0);
        due("field(1, 0)", x.field(1, 0), 0);
        due("meet(1, 3, 1, 3)", x.meet(1, 3, 1, 3), 0);
        due("reach(1, 3)", x.reach(1, 3), 0);
        due("calls(0, 2)", x.calls(0, 2), 0);
        due("calls(2, 2)", x.calls(2, 2), 0);
        due("calls(1, 0)", x.calls(1, 0), 0);
        due("told(2, 0): what was told stays told", x.told(2, 0), 1);
        due("told(2, 2)", x.told(2, 2), 1);
        due("of(1, 0)", x.of(1, 0), 1);
        due("of(1, 1)", x.of(1, 1), 2);
        call(x, 0, 1);
        int[] later = {3, 13, 2, 7, 3, 2, 2, 0, 3, 4, 0, 1, 0};
        for (int what = 0; what < later.length; what++) {
            due("all(" + what + ") when it is LIVE", x.all(what), later[what]);
        }
    }

    // ---- SHARED and OUT

    private static void levelZero() {
        says("SHARED is a SITE, of LEVEL 0 if a PLACE points to it, or a STEP STARTS or HANDS ..");
        for (int way = 0; way < 6; way++) {
            EscapeOwners x = chain(2);
            step(x, 1, NEW, 7);
            step(x, 1, NEW, 6);
            int kind = way < 4 ? PUT : way == 4 ? START : HAND;
            due("all(12) of none", x.all(12), NONE);
            x.step(1, kind, kind == PUT ? way : 7, 7, 0);
            due("of(0, 2), way " + way, x.of(0, 2), 0);
            due("of(1, 2), way " + way, x.of(1, 2), NONE);
            due("all(5), way " + way, x.all(5), 1);
            due("all(12), way " + way, x.all(12), 0);
        }
        EscapeOwners x = new EscapeOwners();
        for (int i = 0; i < 6; i++) {
            step(x, 0, NEW, i);
            x.step(0, i < 2 ? PUT : i < 4 ? START : HAND, i, i, 0);
            due("all(5) of all ways", x.all(5), (2 << i) - 1);
        }
        due("all(12) of all ways", x.all(12), 0);
    }

    /** SITES 0 to 15, each held by the one before it, in METHODS 0 to 2, in an object with none else. */
    private static EscapeOwners listOfSixteen() {
        EscapeOwners x = with(3);
        for (int i = 0; i < 8; i++) {
            step(x, 0, NEW, i);
        }
        x.call(0, 1, 7, NONE, NONE, NONE);
        for (int i = 1; i < 8; i++) {
            step(x, 1, NEW, i);
        }
        x.call(1, 2, 7, NONE, NONE, NONE);
        step(x, 2, NEW, 1);
        for (int i = 1; i < 8; i++) {
            x.step(1, STORE, i - 1, i % 4, i);
            x.step(0, STORE, i - 1, i % 4, i);
        }
        x.step(2, STORE, 0, 3, 1);
        return x;
    }

    private static void levelsToFifteen() {
        says("l being 1 more than the least LEVEL of such: the greatest LEVEL is 15");
        EscapeOwners x = listOfSixteen();
        due("all(5) of none", x.all(5), 0);
        due("all(12) of none", x.all(12), NONE);
        step(x, 0, HAND, 0);
        for (int i = 0; i < 16; i++) {
            due("of(" + i + ", 2)", x.of(i, 2), i);
        }
        due("all(5)", x.all(5), ALL_SITES);
        due("all(12)", x.all(12), 15);
        x.undo();
        step(x, 2, START, 1);
        due("all(5) of the last alone", x.all(5), 1 << 15);
        due("of(14, 2): it only holds", x.of(14, 2), NONE);
        due("all(12)", x.all(12), 0);
        x.step(2, STORE, 1, 0, 0);
        due("all(5) of a ring of two", x.all(5), 3 << 14);
        due("of(15, 2) of a ring", x.of(15, 2), 0);
        due("all(12) of a ring", x.all(12), 1);
    }

    private static void leastLevelCounts() {
        says("the least LEVEL of such");
        EscapeOwners x = listOfSixteen();
        x.step(0, PUT, 3, 0, 0);
        x.step(0, STORE, 0, 3, 7);
        due("of(7, 2): by the shorter way", x.of(7, 2), 1);
        due("of(6, 2)", x.of(6, 2), 6);
        due("of(15, 2)", x.of(15, 2), 9);
        due("all(12)", x.all(12), 9);
        x.step(1, PUT, 3, 7, 0);
        due("of(14, 2): LEVEL 0 though it is held", x.of(14, 2), 0);
        due("of(15, 2)", x.of(15, 2), 1);
        due("all(12)", x.all(12), 7);
    }

    private static void outBySharing() {
        says("OUT of its METHOD is a SITE, if it is SHARED .. What is not OUT STAYS");
        EscapeOwners x = listOfSixteen();
        due("all(6): by NAMES 0 .. 2, and what hangs on them", x.all(6), ALL_SITES);
        EscapeOwners y = new EscapeOwners();
        due("all(6) of no SITE", y.all(6), 0);
        step(y, 0, NEW, 3);
        step(y, 0, NEW, 4);
        y.step(0, STORE, 3, 2, 4);
        due("all(6): both STAY", y.all(6), 0);
        step(y, 0, START, 4);
        due("all(6): what holds it STAYS", y.all(6), 2);
        step(y, 0, START, 3);
        due("all(6)", y.all(6), 3);
    }

    private static void outByResultOrParameter() {
        says("or its METHOD'S RESULT or a PARAMETER of it points to it");
        for (int p = 0; p < 3; p++) {
            EscapeOwners x = with(2);
            step(x, 1, NEW, 3);
            step(x, 1, NEW, 4);
            x.call(0, 1, NONE, NONE, NONE, 5);
            due("all(6)", x.all(6), 0);
            step(x, 1, GIVE, 3);
            due("all(6) by the RESULT", x.all(6), 1);
            x.undo();
            x.call(1, 1, p == 0 ? 4 : NONE, p == 1 ? 4 : NONE, p == 2 ? 4 : NONE, NONE);
            due("all(6) by PARAMETER " + p, x.all(6), 2);
        }
    }

    private static void outByFields() {
        says("or a FIELD of a SITE that is OUT .. does (and so on by FIELDS, of whatever SITES)");
        for (int f = 0; f < 4; f++) {
            EscapeOwners x = with(2);
            step(x, 0, NEW, 3);
            x.call(0, 1, 3, NONE, NONE, NONE);
            for (int i = 3; i < 7; i++) {
                step(x, 1, NEW, i);
            }
            x.step(1, STORE, 3, f, 4);
            x.step(1, STORE, 4, f, 5);
            due("all(6): nothing is OUT yet", x.all(6), 0);
            x.step(1, STORE, 0, f, 3);
            due("all(6): by what the PARAMETER points to", x.all(6), 0xe);
            x.undo();
            step(x, 1, GIVE, 4);
            due("all(6): from the RESULT on", x.all(6), 0xc);
        }
    }

    private static void outIsOfItsOwnMethod() {
        says("OUT of its METHOD .. OUT of that same METHOD");
        EscapeOwners x = with(3);
        step(x, 0, NEW, 3);
        step(x, 0, NEW, 4);
        x.step(0, STORE, 3, 0, 4);
        x.call(0, 1, 3, NONE, NONE, NONE);
        x.call(1, 2, 0, NONE, NONE, NONE);
        step(x, 1, GIVE, 0);
        step(x, 2, GIVE, 0);
        due("all(6): PARAMETERS and RESULTS of other METHODS", x.all(6), 0);
        step(x, 1, NEW, 5);
        x.step(1, STORE, 5, 0, 0);
        due("all(6): what holds what a PARAMETER points to", x.all(6), 0);
        x.step(1, STORE, 0, 0, 5);
        due("all(6): what is held by it", x.all(6), 4);
    }

    // ---- HOLDERS, OWNED, FIXED, IDLE

    private static void holdersFromNoneToAll() {
        says("HOLDERS of a SITE: pairs of a SITE and a FIELD that points to it");
        EscapeOwners x = new EscapeOwners();
        for (int i = 0; i < 16; i++) {
            step(x, 0, NEW, i == 15 ? 4 : 3);
        }
        due("of(15, 3) of no HOLDER", x.of(15, 3), 0);
        due("of(15, 4) of no HOLDER", x.of(15, 4), 0);
        for (int f = 0; f < 4; f++) {
            x.step(0, STORE, 4, f, 4);
            due("of(15, 3): its own FIELDS", x.of(15, 3), f + 1);
            due("of(15, 4): itself", x.of(15, 4), 1 << 15);
        }
        x.step(0, STORE, 4, 3, 4);
        due("of(15, 3): the same pair again", x.of(15, 3), 4);
        for (int f = 0; f < 4; f++) {
            x.step(0, STORE, 3, f, 4);
            due("of(15, 3) with FIELD " + f, x.of(15, 3), 4 + 15 * (f + 1));
        }
        due("of(15, 3): all 64 pairs", x.of(15, 3), 64);
        due("of(15, 4)", x.of(15, 4), ALL_SITES);
        due("of(0, 3)", x.of(0, 3), 0);
        due("of(0, 4)", x.of(0, 4), 0);
    }

    private static void ownedHasJustOneHolder() {
        says("OWNED is one with just one HOLDER ..");
        EscapeOwners x = new EscapeOwners();
        step(x, 0, NEW, 3);
        step(x, 0, NEW, 4);
        due("all(7): no HOLDER", x.all(7), 0);
        x.step(0, STORE, 3, 3, 3);
        due("all(7): its own HOLDER", x.all(7), 1);
        x.step(0, STORE, 3, 3, 3);
        due("all(7): the same one again", x.all(7), 1);
        x.step(0, STORE, 3, 0, 3);
        due("all(7): a second FIELD", x.all(7), 0);
        x.undo();
        x.step(0, STORE, 4, 3, 3);
        due("all(7): a second SITE", x.all(7), 0);
        x.undo();
        due("all(7): one is left", x.all(7), 1);
        x.step(0, STORE, 4, 0, 4);
        due("all(7): both", x.all(7), 3);
    }

    private static void ownedHasNoPlace() {
        says(".. to which no PLACE points");
        for (int s = 0; s < 4; s++) {
            EscapeOwners x = new EscapeOwners();
            step(x, 0, NEW, 3);
            step(x, 0, NEW, 4);
            x.step(0, STORE, 3, 0, 4);
            x.step(0, PUT, s, 3, 0);
            due("all(7): PLACE " + s + " points to its HOLDER", x.all(7), 2);
            x.step(0, PUT, s, 4, 0);
            due("all(7): PLACE " + s + " points to it", x.all(7), 0);
            x.undo();
            step(x, 0, START, 4);
            step(x, 0, HAND, 4);
            due("all(7): SHARED, but in no PLACE", x.all(7), 2);
        }
    }

    private static void fixedByItsOwnMethod() {
        says("FIXED is a SITE, if no STORE of another METHOD than its own is to what may be it");
        EscapeOwners y = with(2);
        y.step(1, STORE, 0, 0, 0);
        step(y, 0, NEW, 3);
        y.call(0, 1, 3, NONE, NONE, NONE);
        due("all(8): the STORE is the first STEP", y.all(8), 0);
        EscapeOwners x = with(3);
        due("all(8) of no SITE", x.all(8), 0);
        step(x, 0, NEW, 3);
        step(x, 0, NEW, 4);
        due("all(8): nothing is STORED", x.all(8), 3);
        x.step(0, STORE, 3, 0, 4);
        due("all(8): a STORE of its own", x.all(8), 3);
        x.call(0, 1, NONE, 4, NONE, NONE);
        x.step(1, STORE, 0, 0, 1);
        due("all(8): it is y of another's STORE, not x", x.all(8), 3);
        x.step(1, STORE, 1, 3, 0);
        due("all(8): another's STORE, of nothing, to it", x.all(8), 1);
        x.undo();
        x.step(2, STORE, 1, 3, 0);
        x.call(2, 2, NONE, 4, NONE, NONE);
        due("all(8): a STORE of what is not LIVE", x.all(8), 3);
        x.step(1, COPY, 5, 1, 0);
        x.step(1, STORE, 5, 0, 5);
        due("all(8): by another NAME", x.all(8), 1);
    }

    private static void idleLocks() {
        says("A LOCK is IDLE, if its NAME points to something, and to nothing SHARED");
        EscapeOwners x = new EscapeOwners();
        for (int i = 0; i < 16; i++) {
            step(x, 0, NEW, 3);
        }
        for (int i = 16; i < 63; i++) {
            step(x, 0, LOCK, 3);
        }
        due("all(11): 47 LOCKS", x.all(11), 47);
        due("idle(62)", x.idle(62), 1);
        step(x, 0, HAND, 3);
        due("all(11): all is SHARED", x.all(11), 0);
        due("idle(62)", x.idle(62), 0);
        x.clear();
        step(x, 0, NEW, 3);
        step(x, 0, NEW, 4);
        step(x, 0, NEW, 5);
        x.step(0, STORE, 4, 0, 5);
        step(x, 0, LOCK, 3);
        step(x, 0, LOCK, 4);
        step(x, 0, LOCK, 5);
        x.step(0, PUT, 0, 4, 0);
        due("idle(4): not SHARED", x.idle(4), 1);
        due("idle(5): SHARED of LEVEL 0", x.idle(5), 0);
        due("idle(6): SHARED of LEVEL 1", x.idle(6), 0);
        x.step(0, COPY, 3, 5, 0);
        due("idle(4): one of two is SHARED", x.idle(4), 0);
        due("all(11)", x.all(11), 0);
    }

    // ---- MARKED, KEPT, BACK

    private static void markedFromOneToAll() {
        says("MARKED by a PARAMETER p of a METHOD m are NAMES (of METHODS): p of m; ..");
        EscapeOwners x = with(8);
        for (int p = 0; p < 3; p++) {
            due("parameter(0, " + p + ", 2): p alone", x.parameter(0, p, 2), 1);
        }
        // METHOD 7's PARAMETER 2 comes to all 64 NAMES by CALLS around the ring.
        for (int m = 0; m < 8; m++) {
            x.call(m, (m + 1) % 8, 2, NONE, 2, NONE);
            x.step(m, COPY, 1, 2, 0);
            for (int name = 3; name < 8; name++) {
                x.step(m, COPY, name, name == 3 ? 1 : name - 1, 0);
            }
        }
        due("parameter(7, 2, 2)", x.parameter(7, 2, 2), 64);
        due("parameter(0, 2, 2)", x.parameter(0, 2, 2), 64);
        due("parameter(3, 0, 2): nothing copies it", x.parameter(3, 0, 2), 1);
        due("parameter(3, 1, 2)", x.parameter(3, 1, 2), 6);
        due("points(3, 7): MARKED, but of nothing", x.points(3, 7), 0);
    }

    private static void markedByCallsPlaceByPlace() {
        says("PARAMETERS of what is CALLED with MARKED NAMES; r of a CALL whose METHOD GIVES a MARKED NAME");
        EscapeOwners x = with(3);
        x.call(0, 1, 1, 0, 0, 3);
        due("parameter(0, 0, 2): PARAMETERS 1 and 2", x.parameter(0, 0, 2), 3);
        due("parameter(0, 1, 2): PARAMETER 0", x.parameter(0, 1, 2), 2);
        due("parameter(0, 2, 2): none", x.parameter(0, 2, 2), 1);
        step(x, 1, GIVE, 0);
        due("parameter(0, 0, 2): it GIVES another", x.parameter(0, 0, 2), 3);
        due("parameter(0, 1, 2): it GIVES it", x.parameter(0, 1, 2), 3);
        x.call(0, 1, NONE, NONE, NONE, NONE);
        due("parameter(0, 1, 2): a CALL without r", x.parameter(0, 1, 2), 3);
        x.call(0, 1, NONE, NONE, NONE, 4);
        due("parameter(0, 1, 2): a CALL with r alone", x.parameter(0, 1, 2), 4);
        x.call(2, 1, NONE, NONE, NONE, 4);
        due("parameter(0, 1, 2): a CALL that is not LIVE", x.parameter(0, 1, 2), 4);
    }

    private static void markedIsNotLoaded() {
        says("x by COPY x, y of a MARKED y (and by no other KIND)");
        EscapeOwners x = new EscapeOwners();
        x.step(0, COPY, 0, 3, 0);
        x.step(0, LOAD, 4, 0, 0);
        x.step(0, STORE, 5, 0, 0);
        x.step(0, PUT, 0, 0, 0);
        x.step(0, TAKE, 6, 0, 0);
        x.step(0, NEW, 0, 0, 0);
        due("parameter(0, 0, 2)", x.parameter(0, 0, 2), 1);
        x.step(0, COPY, 7, 0, 0);
        due("parameter(0, 0, 2)", x.parameter(0, 0, 2), 2);
    }

    private static void keptByEachKind() {
        says("p is KEPT, if one that is MARKED is y of a STORE, x of a PUT, START, HAND");
        for (int p = 0; p < 3; p++) {
            for (int kind = NEW; kind <= LOCK; kind++) {
                EscapeOwners x = new EscapeOwners();
                due("parameter of nothing", x.parameter(0, p, 0), 0);
                int number = kind == CALL ? x.call(0, 0, 7, 7, 7, 6)
                    : x.step(0, kind, kind == PUT ? 3 : 7, kind == PUT ? 7 : 3, kind == LOAD ? 3 : 7);
                due("KIND " + kind, number, 0);
                due("parameter, KIND " + kind + " of another NAME", x.parameter(0, p, 0), 0);
                x.step(0, COPY, 7, p, 0);
                boolean keeps = kind == STORE || kind == PUT || kind == START || kind == HAND;
                due("parameter, KIND " + kind, x.parameter(0, p, 0), keeps ? 1 : 0);
            }
            EscapeOwners x = new EscapeOwners();
            x.step(0, STORE, p, 0, 7);
            due("parameter, x of a STORE", x.parameter(0, p, 0), 0);
            x.step(0, STORE, 7, 0, p);
            due("parameter, y of a STORE to nothing", x.parameter(0, p, 0), 1);
        }
    }

    private static void backByItsOwnMethod() {
        says("BACK, if m GIVES one that is MARKED");
        for (int p = 0; p < 3; p++) {
            EscapeOwners x = with(2);
            x.call(0, 1, 0, 1, 2, NONE);
            step(x, 1, GIVE, p);
            for (int q = 0; q < 3; q++) {
                due("parameter(1, " + q + ", 1)", x.parameter(1, q, 1), p == q ? 1 : 0);
                due("parameter(0, " + q + ", 1): not its own GIVE", x.parameter(0, q, 1), 0);
            }
            x.call(0, 1, NONE, NONE, NONE, 7);
            step(x, 0, GIVE, 7);
            for (int q = 0; q < 3; q++) {
                due("parameter(0, " + q + ", 1): by r", x.parameter(0, q, 1), p == q ? 1 : 0);
                due("parameter(1, " + q + ", 1): both GIVE it", x.parameter(1, q, 1), p == q ? 1 : 0);
            }
        }
    }

    // ---- FRESH and PURE

    private static void freshPointsToSomething() {
        says("A METHOD'S RESULT is FRESH, if it points to something ..");
        EscapeOwners x = chain(8);
        due("all(10): none GIVES", x.all(10), 0);
        for (int m = 0; m < 8; m++) {
            step(x, m, GIVE, 3);
        }
        due("all(10): all GIVE nothing", x.all(10), 0);
        for (int m = 0; m < 8; m++) {
            step(x, m, NEW, 3);
            due("all(10) with METHOD " + m, x.all(10), (2 << m) - 1);
        }
    }

    private static void freshIsMadeThere() {
        says("and each such SITE is made by a STEP of that METHOD ..");
        EscapeOwners x = chain(2);
        step(x, 1, NEW, 3);
        step(x, 1, GIVE, 3);
        step(x, 0, GIVE, 4);
        x.call(0, 1, NONE, NONE, NONE, 4);
        due("all(10): METHOD 0 GIVES what METHOD 1 made", x.all(10), 2);
        x.step(0, NEW, 4, 0, 0);
        due("all(10): one of two is its own", x.all(10), 2);
        x.undo();
        x.undo();
        x.step(0, NEW, 4, 0, 0);
        due("all(10): its own alone", x.all(10), 3);
    }

    private static void freshIsSeenByNone() {
        says("is not SHARED, has no HOLDER, and no PARAMETER of the METHOD points to it");
        for (int way = 0; way < 8; way++) {
            EscapeOwners x = chain(2);
            for (int i = 3; i < 8; i++) {
                step(x, 1, NEW, i);
            }
            step(x, 1, GIVE, 3);
            step(x, 1, GIVE, 4);
            x.step(1, STORE, 3, 0, 5);
            x.step(1, STORE, 4, 1, 6);
            x.step(1, PUT, 1, 5, 0);
            x.step(1, COPY, 1, 6, 0);
            due("all(10): what it holds does not count", x.all(10), 2);
            switch (way) {
                case 0: x.step(1, PUT, 3, 4, 0); break;
                case 1: x.step(1, START, 4, 0, 0); break;
                case 2: x.step(1, HAND, 4, 0, 0); break;
                case 3: x.step(1, STORE, 7, 3, 4); break;
                case 4: x.step(1, STORE, 4, 3, 4); break;
                case 5: x.step(1, COPY, 0, 4, 0); break;
                case 6: x.step(1, COPY, 1, 4, 0); break;
                default: x.step(1, COPY, 2, 4, 0); break;
            }
            due("all(10), way " + way, x.all(10), 0);
            x.undo();
            x.call(1, 0, 4, 4, 4, NONE);
            due("all(10): a PARAMETER of another METHOD", x.all(10), 2);
        }
        for (int r = 0; r < 8; r++) {
            EscapeOwners x = with(3);
            x.call(0, 1, NONE, NONE, NONE, r);
            step(x, 1, NEW, 7);
            step(x, 1, GIVE, 7);
            call(x, 0, 2);
            due("all(10): any NAME of what CALLS it", x.all(10), 2);
        }
    }

    private static void pureDoesNone() {
        says("PURE is a METHOD, if neither it .. PUTS, STARTS or HANDS");
        for (int kind = NEW; kind <= LOCK; kind++) {
            EscapeOwners x = new EscapeOwners();
            due("all(9) without STEPS", x.all(9), 1);
            due("KIND " + kind, kind == CALL ? call(x, 0, 0) : step(x, 0, kind, 3), 0);
            boolean harms = kind == PUT || kind == START || kind == HAND;
            due("all(9), KIND " + kind + " of nothing", x.all(9), harms ? 0 : 1);
            x.undo();
            due("all(9) after undo", x.all(9), 1);
        }
    }

    private static void pureWithWhatItCalls() {
        says("nor what it CALLS (what that CALLS, and so on)");
        EscapeOwners x = chain(8);
        due("all(9)", x.all(9), ALL_METHODS);
        for (int m = 7; m >= 0; m--) {
            x.step(m, HAND, 7, 0, 0);
            due("all(9): METHOD " + m + " HANDS", x.all(9), ALL_METHODS & -(2 << m));
            x.undo();
        }
        call(x, 7, 3);
        x.step(5, HAND, 7, 0, 0);
        due("all(9): METHODS 3 .. 7 CALL each other", x.all(9), 0);
        EscapeOwners y = with(3);
        call(y, 0, 1);
        y.step(2, PUT, 0, 0, 0);
        call(y, 2, 0);
        due("all(9): METHOD 2 is not LIVE", y.all(9), 3);
    }

    private static void pureStores() {
        says("nor STORES to what may be a SITE of no METHOD among these");
        EscapeOwners x = chain(3);
        x.step(1, STORE, 3, 0, 3);
        due("all(9): a STORE to nothing", x.all(9), 7);
        step(x, 1, NEW, 3);
        due("all(9): to its own SITE", x.all(9), 7);
        step(x, 0, NEW, 4);
        x.call(0, 1, 4, NONE, NONE, NONE);
        due("all(9): it is given METHOD 0's", x.all(9), 7);
        x.step(1, COPY, 3, 0, 0);
        due("all(9): one of two is METHOD 0's", x.all(9), 5);
        x.undo();
        x.step(2, NEW, 5, 0, 0);
        x.step(2, GIVE, 5, 0, 0);
        x.call(1, 2, NONE, NONE, NONE, 3);
        due("all(9): one of two is of what it CALLS", x.all(9), 7);
        x.call(1, 2, 3, NONE, NONE, NONE);
        x.step(2, STORE, 0, 3, 7);
        due("all(9): METHOD 2 STORES, of nothing, to METHOD 1's", x.all(9), 3);
        call(x, 2, 1);
        due("all(9): METHOD 2 CALLS METHOD 1", x.all(9), 7);
    }

    // ---- REFUSALS

    private static void badBeforeFull() {
        says("BAD (a number is none, or out of its bounds) first; then what a call names");
        EscapeOwners x = with(8);
        for (int i = 0; i < 16; i++) {
            step(x, 0, NEW, 3);
        }
        due("a 17th SITE of NAME 8", step(x, 0, NEW, 8), BAD);
        due("a 17th SITE of NAME -1", step(x, 0, NEW, -1), BAD);
        due("a 17th SITE in METHOD 8", step(x, 8, NEW, 0), BAD);
        due("a 17th SITE", x.step(0, NEW, 0, MIN, MAX), FULL);
        for (int i = 16; i < 64; i++) {
            step(x, 0, LOCK, 3);
        }
        due("a 65th STEP in METHOD 8", step(x, 8, LOCK, 3), BAD);
        due("a 65th STEP of KIND 6", step(x, 0, CALL, 3), BAD);
        due("a 65th STEP of KIND 11", step(x, 0, 11, 3), BAD);
        due("a 65th STEP of KIND -1", step(x, 0, -1, 3), BAD);
        due("a 65th STEP of NAME 8", step(x, 0, LOCK, 8), BAD);
        due("a 65th STEP of FIELD 4", x.step(0, STORE, 3, 4, 3), BAD);
        due("a 65th STEP of PLACE 4", x.step(0, PUT, 4, 3, 0), BAD);
        due("a 65th STEP", step(x, 7, LOCK, 7), FULL);
        due("a 65th STEP, a CALL of METHOD 8", call(x, 0, 8), BAD);
        due("a 65th STEP, a CALL in METHOD 8", call(x, 8, 0), BAD);
        due("a 65th STEP, a CALL with NAME 8", x.call(0, 0, NONE, NONE, NONE, 8), BAD);
        due("a 65th STEP, a CALL with NAME -2", x.call(0, 0, -2, NONE, NONE, NONE), BAD);
        due("a 65th STEP, a CALL", x.call(7, 7, 7, 7, 7, 7), FULL);
    }

    private static void badBeforeNone() {
        says("BAD first; NONE: the METHOD is not LIVE");
        EscapeOwners x = with(2);
        step(x, 1, LOCK, 3);
        step(x, 1, NEW, 3);
        due("parameter(1, 3, 0)", x.parameter(1, 3, 0), BAD);
        due("parameter(1, -1, 0)", x.parameter(1, -1, 0), BAD);
        due("parameter(1, 0, 3)", x.parameter(1, 0, 3), BAD);
        due("parameter(1, 0, -1)", x.parameter(1, 0, -1), BAD);
        due("parameter(1, 2, 2)", x.parameter(1, 2, 2), NONE);
        due("idle(1): no LOCK, and not LIVE", x.idle(1), BAD);
        due("idle(0): not LIVE", x.idle(0), NONE);
    }

    private static void refusedNumbersAreNotUsedUp() {
        says("What is refused changes nothing");
        EscapeOwners x = with(8);
        due("method()", x.method(), FULL);
        due("method() again", x.method(), FULL);
        due("NEW 8", step(x, 0, NEW, 8), BAD);
        due("NEW 7, the first STEP", step(x, 0, NEW, 7), 0);
        due("KIND 11", step(x, 0, 11, 7), BAD);
        due("call of METHOD 8", call(x, 0, 8), BAD);
        due("NEW 7, the second STEP", step(x, 0, NEW, 7), 1);
        due("told(1, 2), the second SITE", x.told(1, 2), 1);
        for (int i = 2; i < 16; i++) {
            step(x, 0, NEW, 7);
        }
        due("a 17th SITE", step(x, 0, NEW, 6), FULL);
        due("all(1)", x.all(1), 16);
        due("points(0, 6)", x.points(0, 6), 0);
        due("call", call(x, 0, 7), 16);
        due("all(3)", x.all(3), 1 | 1 << 7);
        for (int i = 17; i < 64; i++) {
            step(x, 7, LOCK, 0);
        }
        due("a CALL as the 65th", x.call(0, 6, 7, 7, 7, 5), FULL);
        due("all(3)", x.all(3), 1 | 1 << 7);
        due("a HAND as the 65th", step(x, 0, HAND, 7), FULL);
        due("all(5)", x.all(5), 0);
        due("undo()", x.undo(), 63);
        due("told(63, 0)", x.told(63, 0), BAD);
    }

    private static void setsAreNumbers() {
        says("Sets are told as numbers (bit s for SITE s, METHOD s)");
        EscapeOwners x = chain(8);
        for (int i = 0; i < 16; i++) {
            step(x, i / 2, NEW, 3 + i % 2);
        }
        for (int s = 0; s < 16; s++) {
            due("points of SITE " + s, x.points(s / 2, 3 + s % 2), 1 << s);
            due("of(" + s + ", 5)", x.of(s, 5), 1 << s / 2);
        }
        due("all(3)", x.all(3), 255);
        due("all(4)", x.all(4), 65535);
        due("calls(6, 0)", x.calls(6, 0), 128);
    }

    // ---- Promises 1 to 6: changes

    private static void newObject() {
        says("Promise 1: METHOD 0 alone, without STEPS");
        EscapeOwners x = new EscapeOwners();
        int[] wants = {1, 0, 0, 1, 0, 0, 0, 0, 0, 1, 0, 0, NONE};
        for (int what = 0; what < wants.length; what++) {
            due("all(" + what + ")", x.all(what), wants[what]);
        }
        for (int i = 0; i < 8; i++) {
            due("points(0, " + i + ")", x.points(0, i), 0);
            due("reach(0, " + i + ")", x.reach(0, i), 0);
            due("points(1, " + i + ")", x.points(1, i), BAD);
            due("told(0, " + i + ")", x.told(0, i), BAD);
            due("of(0, " + i + ")", x.of(0, i), BAD);
        }
        for (int i = 0; i < 4; i++) {
            due("field(0, " + i + ")", x.field(0, i), BAD);
            due("place(" + i + ")", x.place(i), 0);
        }
        for (int i = 0; i < 3; i++) {
            due("calls(0, " + i + ")", x.calls(0, i), 0);
            due("parameter(0, " + i + ", 0)", x.parameter(0, i, 0), 0);
            due("parameter(0, " + i + ", 1)", x.parameter(0, i, 1), 0);
            due("parameter(0, " + i + ", 2)", x.parameter(0, i, 2), 1);
        }
        due("result(0)", x.result(0), 0);
        due("meet(0, 0, 0, 0)", x.meet(0, 0, 0, 0), 0);
        due("idle(0)", x.idle(0), BAD);
        due("undo()", x.undo(), NONE);
        due("clear()", x.clear(), 0);
    }

    private static void clearTellsSteps() {
        says("Promise 2: As at first: how many STEPS there were");
        EscapeOwners x = new EscapeOwners();
        due("clear() of nothing", x.clear(), 0);
        x.method();
        due("clear() of METHODS alone", x.clear(), 0);
        due("all(0)", x.all(0), 1);
        step(x, 0, NEW, 3);
        due("clear() of one", x.clear(), 1);
        for (int i = 0; i < 64; i++) {
            step(x, 0, i < 16 ? NEW : LOCK, 3);
        }
        step(x, 0, LOCK, 3);
        due("clear() of 64", x.clear(), 64);
        due("all(2)", x.all(2), 0);
        due("points(0, 3)", x.points(0, 3), 0);
        due("undo()", x.undo(), NONE);
        due("NEW", step(x, 0, NEW, 4), 0);
        due("told(0, 2)", x.told(0, 2), 0);
        due("undo()", x.undo(), 0);
        due("clear() after undo", x.clear(), 0);
        for (int i = 1; i < 8; i++) {
            due("method()", x.method(), i);
        }
        due("method() beyond", x.method(), FULL);
        due("clear()", x.clear(), 0);
        due("method() after clear", x.method(), 1);
    }

    private static void methodsAreEight() {
        says("Promise 3: A METHOD more, without STEPS: its number. FULL: 8");
        EscapeOwners x = new EscapeOwners();
        for (int i = 1; i < 8; i++) {
            due("all(0)", x.all(0), i);
            due("points(" + i + ", 0)", x.points(i, 0), BAD);
            due("method()", x.method(), i);
            due("points(" + i + ", 0)", x.points(i, 0), 0);
            due("result(" + i + ")", x.result(i), 0);
            due("calls(" + i + ", 0)", x.calls(i, 0), 0);
            due("all(3)", x.all(3), 1);
        }
        due("method()", x.method(), FULL);
        due("all(0)", x.all(0), 8);
        due("all(1)", x.all(1), 0);
    }

    private static void othersDoNotCount() {
        says("Promise 4: with what it needs as above (others do not count)");
        int[] kinds = {NEW, COPY, TAKE, PUT, GIVE, START, HAND, LOCK};
        for (int kind : kinds) {
            boolean two = kind == COPY || kind == TAKE || kind == PUT;
            for (int odd : new int[] {MIN, -3, -2, -1, 0, 4, 8, 64, MAX}) {
                EscapeOwners x = new EscapeOwners();
                due("KIND " + kind + " with " + odd, x.step(0, kind, 3, two ? 3 : odd, odd), 0);
                due("told(0, 3)", x.told(0, 3), 3);
                due("told(0, 4)", x.told(0, 4), two ? 3 : NONE);
                due("told(0, 5)", x.told(0, 5), NONE);
            }
        }
    }

    private static void undoFromFullToNone() {
        says("Promise 6: The last STEP goes (a SITE with it): how many are left. NONE: there is none");
        EscapeOwners x = new EscapeOwners();
        for (int i = 0; i < 64; i++) {
            step(x, 0, i % 4 == 0 ? NEW : LOCK, i % 8);
        }
        due("all(2)", x.all(2), 16);
        for (int left = 63; left >= 0; left--) {
            due("undo()", x.undo(), left);
            due("all(1)", x.all(1), left);
            due("all(2)", x.all(2), (left + 3) / 4);
            due("told(" + left + ", 0)", x.told(left, 0), BAD);
            due("of the SITE that went", x.of((left + 3) / 4, 0), BAD);
        }
        due("undo() of none", x.undo(), NONE);
        due("undo() of none again", x.undo(), NONE);
        due("all(1)", x.all(1), 0);
        due("the first again", step(x, 0, NEW, 0), 0);
    }

    private static void undoOfEachKind() {
        says("Promise 6: The last STEP goes, and all that follows from it");
        EscapeOwners x = with(2);
        step(x, 0, NEW, 3);
        step(x, 0, NEW, 4);
        x.step(0, STORE, 3, 1, 4);
        x.step(0, COPY, 5, 3, 0);
        due("points(0, 5)", x.points(0, 5), 1);
        x.undo();
        due("points(0, 5) after COPY", x.points(0, 5), 0);
        x.step(0, LOAD, 5, 3, 1);
        due("points(0, 5)", x.points(0, 5), 2);
        x.undo();
        due("points(0, 5) after LOAD", x.points(0, 5), 0);
        x.step(0, STORE, 4, 2, 3);
        due("field(1, 2)", x.field(1, 2), 1);
        x.undo();
        due("field(1, 2) after STORE", x.field(1, 2), 0);
        x.step(0, PUT, 3, 3, 0);
        due("all(5)", x.all(5), 3);
        x.undo();
        due("all(5) after PUT", x.all(5), 0);
        due("place(3) after PUT", x.place(3), 0);
        step(x, 0, GIVE, 4);
        due("result(0)", x.result(0), 2);
        x.undo();
        due("result(0) after GIVE", x.result(0), 0);
        x.call(0, 1, 3, NONE, NONE, NONE);
        due("points(1, 0)", x.points(1, 0), 1);
        x.undo();
        due("points(1, 0) after CALL", x.points(1, 0), 0);
        due("all(3) after CALL", x.all(3), 1);
        step(x, 0, START, 4);
        due("of(1, 2)", x.of(1, 2), 0);
        x.undo();
        due("of(1, 2) after START", x.of(1, 2), NONE);
        step(x, 0, LOCK, 4);
        due("all(11)", x.all(11), 1);
        x.undo();
        due("all(11) after LOCK", x.all(11), 0);
        due("undo() of the STORE", x.undo(), 2);
        due("all(7)", x.all(7), 0);
        due("undo() of a NEW", x.undo(), 1);
        due("points(0, 4)", x.points(0, 4), 0);
    }

    private static void undoKeepsMethods() {
        says("Promise 6: The last STEP goes (METHODS stay)");
        EscapeOwners x = with(3);
        step(x, 2, NEW, 3);
        x.method();
        due("undo(): the STEP, not the METHOD that came later", x.undo(), 0);
        due("all(0)", x.all(0), 4);
        due("undo()", x.undo(), NONE);
        due("all(0)", x.all(0), 4);
        due("method()", x.method(), 4);
    }

    // ---- Promises 7 to 18: questions

    private static void toldOfEachKind() {
        says("Promise 7: 3 .. 7 what it needs, in the order named (NONE: nothing so)");
        int[] needs = {1, 2, 3, 3, 2, 2, 5, 1, 1, 1, 1};
        for (int kind = NEW; kind <= LOCK; kind++) {
            EscapeOwners x = with(4);
            due("KIND " + kind, kind == CALL ? x.call(3, 3, 2, 1, 0, 7) : x.step(3, kind, 3, 2, 1), 0);
            int[] given = kind == CALL ? new int[] {3, 2, 1, 0, 7} : new int[] {3, 2, 1, NONE, NONE};
            due("told(0, 0)", x.told(0, 0), 3);
            due("told(0, 1)", x.told(0, 1), kind);
            due("told(0, 2)", x.told(0, 2), kind == NEW ? 0 : NONE);
            for (int i = 0; i < 5; i++) {
                due("told(0, " + (3 + i) + ") of KIND " + kind, x.told(0, 3 + i), i < needs[kind] ? given[i] : NONE);
            }
            due("told(0, 8)", x.told(0, 8), BAD);
            due("told(0, -1)", x.told(0, -1), BAD);
        }
    }

    private static void toldFirstAndLast() {
        says("Promise 7: Of a STEP. BAD: as -2");
        EscapeOwners x = new EscapeOwners();
        for (int i = 0; i < 64; i++) {
            due("told(" + i + ", 0) before", x.told(i, 0), -2);
            step(x, 0, LOCK, i % 8);
            due("told(" + i + ", 3)", x.told(i, 3), i % 8);
            due("told(0, 1)", x.told(0, 1), LOCK);
        }
        due("told(64, 0)", x.told(64, 0), -2);
        due("told(-1, 0)", x.told(-1, 0), -2);
    }

    private static void allOfNothing() {
        says("Promise 8: What = 0 .. 12; 12 the greatest LEVEL of a SHARED SITE (NONE: none is). BAD");
        EscapeOwners x = new EscapeOwners();
        step(x, 0, NEW, 3);
        due("all(12): none is", x.all(12), NONE);
        due("all(13)", x.all(13), BAD);
        due("all(-1)", x.all(-1), BAD);
        due("all(MIN)", x.all(MIN), BAD);
        due("all(MAX)", x.all(MAX), BAD);
        step(x, 0, HAND, 3);
        due("all(12): LEVEL 0 alone", x.all(12), 0);
        due("all(13)", x.all(13), BAD);
    }

    private static void pointsOfWhatIsNotLive() {
        says("Promise 9: What a NAME of a METHOD points to (0, if it is not LIVE)");
        EscapeOwners x = with(2);
        for (int i = 0; i < 8; i++) {
            step(x, 1, NEW, i);
            due("points(1, " + i + ")", x.points(1, i), 0);
        }
        call(x, 0, 1);
        for (int i = 0; i < 8; i++) {
            due("points(1, " + i + ") when LIVE", x.points(1, i), 1 << i);
        }
        x.undo();
        due("points(1, 7) when no more LIVE", x.points(1, 7), 0);
    }

    private static void fieldOfFirstAndLast() {
        says("Promise 10: What FIELD f of a SITE points to. BAD");
        EscapeOwners x = new EscapeOwners();
        for (int i = 0; i < 16; i++) {
            due("field(" + i + ", 0) before", x.field(i, 0), BAD);
            step(x, 0, NEW, i == 15 ? 5 : i == 0 ? 3 : 4);
            due("field(" + i + ", 0)", x.field(i, 0), 0);
            due("field(" + i + ", 3)", x.field(i, 3), 0);
        }
        due("field(16, 0)", x.field(16, 0), BAD);
        x.step(0, STORE, 5, 3, 3);
        x.step(0, STORE, 3, 0, 5);
        due("field(15, 3)", x.field(15, 3), 1);
        due("field(15, 0)", x.field(15, 0), 0);
        due("field(0, 0)", x.field(0, 0), 1 << 15);
        due("field(0, 3)", x.field(0, 3), 0);
        due("field(1, 0)", x.field(1, 0), 0);
    }

    private static void placeHoldsMany() {
        says("Promise 11: What PLACE s points to. BAD");
        EscapeOwners x = new EscapeOwners();
        for (int i = 0; i < 16; i++) {
            step(x, 0, NEW, i % 2 == 0 ? 3 : 4);
        }
        x.step(0, PUT, 0, 3, 0);
        x.step(0, PUT, 3, 4, 0);
        due("place(0)", x.place(0), 0x5555);
        due("place(1)", x.place(1), 0);
        due("place(2)", x.place(2), 0);
        due("place(3)", x.place(3), 0xaaaa);
        due("place(4)", x.place(4), BAD);
        due("place(-1)", x.place(-1), BAD);
        x.step(0, PUT, 3, 3, 0);
        due("place(3): both", x.place(3), ALL_SITES);
    }

    private static void resultOfNothing() {
        says("Promise 12: What a METHOD'S RESULT points to. BAD");
        EscapeOwners x = with(8);
        for (int m = 0; m < 8; m++) {
            due("result(" + m + ")", x.result(m), 0);
            step(x, m, NEW, 3);
            step(x, m, GIVE, 3);
            due("result(" + m + ")", x.result(m), m == 0 ? 1 : 0);
        }
        due("result(8)", x.result(8), BAD);
        due("result(-1)", x.result(-1), BAD);
        x.call(0, 7, NONE, NONE, NONE, 3);
        due("result(7) when LIVE", x.result(7), 1 << 7);
        due("result(0): NAME 3 is r, too", x.result(0), 1 | 1 << 7);
    }

    private static void ofASiteOfItsOwn() {
        says("Promise 13: 2 its LEVEL (NONE), 3 how many HOLDERS it has, ..: of a SITE that nothing knows");
        EscapeOwners x = with(2);
        step(x, 1, LOCK, 3);
        step(x, 1, NEW, 3);
        int[] notLive = {1, 1, NONE, 0, 0, 0, 0};
        for (int what = 0; what < 7; what++) {
            due("of(0, " + what + "), not LIVE", x.of(0, what), notLive[what]);
        }
        call(x, 0, 1);
        int[] live = {1, 1, NONE, 0, 0, 2, 0};
        for (int what = 0; what < 7; what++) {
            due("of(0, " + what + ")", x.of(0, what), live[what]);
            due("of(1, " + what + ")", x.of(1, what), BAD);
            due("of(-1, " + what + ")", x.of(-1, what), BAD);
        }
        due("of(0, 7)", x.of(0, 7), BAD);
        due("of(0, -1)", x.of(0, -1), BAD);
    }

    private static void ofASiteOfAll() {
        says("Promise 13: 5 METHODS of which some NAME points to it, 6 METHODS whose STORES are to what may be it");
        for (int i = 0; i < 8; i++) {
            EscapeOwners y = chain(8);
            step(y, 7, NEW, i);
            due("of(0, 5) by NAME " + i + " alone", y.of(0, 5), 128);
        }
        EscapeOwners x = with(8);
        step(x, 0, NEW, 7);
        x.call(0, 1, NONE, NONE, 7, NONE);
        for (int m = 1; m < 7; m++) {
            x.call(m, m + 1, NONE, NONE, 2, NONE);
        }
        due("of(0, 5)", x.of(0, 5), ALL_METHODS);
        due("of(0, 6)", x.of(0, 6), 0);
        for (int m = 0; m < 8; m++) {
            x.step(m, STORE, m == 0 ? 7 : 2, 3, 6);
            due("of(0, 6) with METHOD " + m, x.of(0, 6), (2 << m) - 1);
        }
        due("of(0, 3): all STORE nothing", x.of(0, 3), 0);
        due("all(8)", x.all(8), 0);
    }

    private static void meetOfNothing() {
        says("Promise 14: Whether one may be the other (1 or 0): .. a SITE in common. BAD");
        EscapeOwners x = with(2);
        due("meet(0, 3, 0, 3) of nothing", x.meet(0, 3, 0, 3), 0);
        step(x, 0, NEW, 3);
        due("meet(0, 3, 0, 3)", x.meet(0, 3, 0, 3), 1);
        due("meet(0, 3, 0, 4): one of nothing", x.meet(0, 3, 0, 4), 0);
        due("meet(0, 4, 0, 3): one of nothing", x.meet(0, 4, 0, 3), 0);
        step(x, 0, NEW, 4);
        due("meet(0, 3, 0, 4): none in common", x.meet(0, 3, 0, 4), 0);
        for (int i = 2; i < 16; i++) {
            step(x, 0, NEW, i == 15 ? 7 : 5);
        }
        x.step(0, COPY, 5, 7, 0);
        x.step(0, COPY, 6, 7, 0);
        due("meet(0, 5, 0, 6): the last SITE alone", x.meet(0, 5, 0, 6), 1);
        due("meet(0, 5, 0, 3)", x.meet(0, 5, 0, 3), 0);
        step(x, 1, NEW, 3);
        x.step(1, COPY, 3, 3, 0);
        due("meet(0, 3, 1, 3): not LIVE", x.meet(0, 3, 1, 3), 0);
        x.call(0, 1, 3, NONE, NONE, NONE);
        due("meet(0, 3, 1, 0)", x.meet(0, 3, 1, 0), 1);
        due("meet(1, 0, 0, 3)", x.meet(1, 0, 0, 3), 1);
        due("meet(2, 0, 0, 3)", x.meet(2, 0, 0, 3), BAD);
        due("meet(0, 8, 0, 3)", x.meet(0, 8, 0, 3), BAD);
        due("meet(0, 3, 2, 0)", x.meet(0, 3, 2, 0), BAD);
        due("meet(0, 3, 1, 8)", x.meet(0, 3, 1, 8), BAD);
    }

    private static void reachOfNoneOneAndMore() {
        says("Promise 15: All SITES that are come to .. by FIELDS (none, one or more)");
        EscapeOwners x = listOfSixteen();
        for (int i = 0; i < 8; i++) {
            due("reach(0, " + i + ")", x.reach(0, i), ALL_SITES & -(1 << i));
            due("reach(1, " + i + ")", x.reach(1, i), ALL_SITES & -(1 << (7 + i)));
        }
        due("reach(2, 0)", x.reach(2, 0), 3 << 14);
        due("reach(2, 1): by no FIELD", x.reach(2, 1), 1 << 15);
        due("reach(2, 2): of nothing", x.reach(2, 2), 0);
        due("reach(3, 0)", x.reach(3, 0), BAD);
        due("reach(2, 8)", x.reach(2, 8), BAD);
        due("reach(-1, 0)", x.reach(-1, 0), BAD);
        due("reach(2, -1)", x.reach(2, -1), BAD);
    }

    private static void parameterOfWhatIsNotLive() {
        says("Promise 16: PARAMETER p (0 .. 2) .. BAD; NONE: the METHOD is not LIVE");
        EscapeOwners x = with(2);
        x.step(1, HAND, 0, 0, 0);
        x.step(1, GIVE, 0, 0, 0);
        for (int p = 0; p < 3; p++) {
            for (int what = 0; what < 3; what++) {
                due("parameter(1, " + p + ", " + what + ")", x.parameter(1, p, what), NONE);
            }
        }
        call(x, 0, 1);
        int[] wants = {1, 1, 1};
        for (int what = 0; what < 3; what++) {
            due("parameter(1, 0, " + what + ") when LIVE", x.parameter(1, 0, what), wants[what]);
        }
        due("parameter(1, 2, 0) when LIVE", x.parameter(1, 2, 0), 0);
        x.undo();
        due("parameter(1, 0, 0) when no more LIVE", x.parameter(1, 0, 0), NONE);
        due("parameter(2, 0, 0)", x.parameter(2, 0, 0), BAD);
        due("parameter(0, 3, 0)", x.parameter(0, 3, 0), BAD);
        due("parameter(0, 0, 3)", x.parameter(0, 0, 3), BAD);
    }

    private static void idleOfWhatIsNotLive() {
        says("Promise 17: BAD: also the STEP is no LOCK; NONE: its METHOD is not LIVE");
        EscapeOwners x = with(2);
        for (int kind = NEW; kind <= LOCK; kind++) {
            int number = kind == CALL ? call(x, 0, 0) : step(x, 0, kind, 3);
            due("idle of KIND " + kind, x.idle(number), kind == LOCK ? 0 : BAD);
        }
        due("idle of the STEP after the last", x.idle(11), BAD);
        step(x, 1, LOCK, 3);
        step(x, 1, NEW, 3);
        due("idle(11): not LIVE", x.idle(11), NONE);
        call(x, 0, 1);
        due("idle(11) when LIVE", x.idle(11), 1);
        x.undo();
        due("idle(11) when no more LIVE", x.idle(11), NONE);
        x.undo();
        x.undo();
        due("idle(11) after undo", x.idle(11), BAD);
        due("idle(-1)", x.idle(-1), BAD);
        due("idle(64)", x.idle(64), BAD);
    }

    private static void callsOfNone() {
        says("Promise 18: METHODS that a METHOD CALLS .. BAD: of none");
        EscapeOwners x = with(8);
        for (int m = 0; m < 8; m++) {
            for (int what = 0; what < 3; what++) {
                due("calls(" + m + ", " + what + ")", x.calls(m, what), 0);
            }
        }
        due("calls(8, 0)", x.calls(8, 0), BAD);
        due("calls(-1, 0)", x.calls(-1, 0), BAD);
        due("calls(0, 3)", x.calls(0, 3), BAD);
        due("calls(0, -1)", x.calls(0, -1), BAD);
    }

    private static void callsOfAll() {
        says("Promise 18: or what these CALL, too, and so on (1); that CALL it (2)");
        EscapeOwners x = chain(8);
        for (int m = 0; m < 8; m++) {
            due("calls(" + m + ", 0)", x.calls(m, 0), m == 7 ? 0 : 2 << m);
            due("calls(" + m + ", 1): not itself", x.calls(m, 1), ALL_METHODS & -(2 << m));
            due("calls(" + m + ", 2)", x.calls(m, 2), m == 0 ? 0 : 1 << (m - 1));
        }
        call(x, 7, 0);
        for (int m = 0; m < 8; m++) {
            due("calls(" + m + ", 1): itself, too", x.calls(m, 1), ALL_METHODS);
        }
        due("calls(0, 2)", x.calls(0, 2), 128);
        x.clear();
        for (int m = 1; m < 8; m++) {
            x.method();
        }
        for (int m = 0; m < 8; m++) {
            call(x, 0, m);
            call(x, m, 7);
        }
        due("calls(0, 0): all", x.calls(0, 0), ALL_METHODS);
        due("calls(7, 2): all", x.calls(7, 2), ALL_METHODS);
        due("calls(7, 0): itself", x.calls(7, 0), 128);
    }
}
