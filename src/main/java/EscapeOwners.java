/**
 * Who may hold what is made: METHODS of STEPS, the least sets of SITES that each NAME, FIELD,
 * PLACE and RESULT may point to, and what follows from these sets.
 *
 * All sets are ints: bit s for SITE s, bit m for METHOD m, bit x for NAME x.
 */
public final class EscapeOwners {
    public static final int NONE = -1, BAD = -2, FULL = -3;

    private static final int METHODS = 8, NAMES = 8, PARAMETERS = 3;
    private static final int STEPS = 64, SITES = 16, FIELDS = 4, PLACES = 4;

    private static final int NEW = 0, COPY = 1, LOAD = 2, STORE = 3, TAKE = 4, PUT = 5;
    private static final int CALL = 6, GIVE = 7, START = 8, HAND = 9, LOCK = 10, KINDS = 11;

    // A CALL needs the most: METHOD, three arguments and the NAME of its answer.
    private static final int NEEDS = 5, STEP_NEEDS = 3, CALLED = 0, FIRST_ARGUMENT = 1, ANSWER = 4;

    // Below which bound each need of a KIND is (0: no such need); a CALL is checked by itself.
    private static final int[] LIMITS = {
        NAMES, 0, 0,
        NAMES, NAMES, 0,
        NAMES, NAMES, FIELDS,
        NAMES, FIELDS, NAMES,
        NAMES, PLACES, 0,
        PLACES, NAMES, 0,
        0, 0, 0,
        NAMES, 0, 0,
        NAMES, 0, 0,
        NAMES, 0, 0,
        NAMES, 0, 0
    };

    // Every sweep but the last adds a bit to one of the sets, so no program needs more sweeps.
    private static final int SWEEPS =
        (METHODS * NAMES + SITES * FIELDS + PLACES + METHODS) * SITES + 1;

    private final Program program;
    private final LeastSets sets;
    private final Escapes escapes;
    private final Marks marks;

    public EscapeOwners() {
        program = new Program();
        sets = new LeastSets(program);
        escapes = new Escapes(program, sets);
        marks = new Marks(program);
    }

    public int clear() {
        int before = program.steps;
        program.empty();
        sets.forget();
        return before;
    }

    public int method() {
        if (program.methods >= METHODS) {
            return FULL;
        }
        return program.addMethod();
    }

    public int step(int m, int kind, int a, int b, int c) {
        if (!isMethod(m) || !isBelow(kind, KINDS) || kind == CALL) {
            return BAD;
        }
        if (!fits(kind, 0, a) || !fits(kind, 1, b) || !fits(kind, 2, c)) {
            return BAD;
        }
        if (!program.hasRoomFor(kind)) {
            return FULL;
        }
        sets.forget();
        int number = program.addStep(m, kind);
        program.setNeed(number, 0, needed(kind, 0, a));
        program.setNeed(number, 1, needed(kind, 1, b));
        program.setNeed(number, 2, needed(kind, 2, c));
        return number;
    }

    public int call(int m, int to, int x, int y, int z, int r) {
        if (!isMethod(m) || !isMethod(to)) {
            return BAD;
        }
        if (!isNameOrNone(x) || !isNameOrNone(y) || !isNameOrNone(z) || !isNameOrNone(r)) {
            return BAD;
        }
        if (!program.hasRoomFor(CALL)) {
            return FULL;
        }
        sets.forget();
        int number = program.addStep(m, CALL);
        program.setNeed(number, CALLED, to);
        program.setNeed(number, FIRST_ARGUMENT, x);
        program.setNeed(number, FIRST_ARGUMENT + 1, y);
        program.setNeed(number, FIRST_ARGUMENT + 2, z);
        program.setNeed(number, ANSWER, r);
        return number;
    }

    public int undo() {
        if (program.steps <= 0) {
            return NONE;
        }
        sets.forget();
        return program.dropStep();
    }

    public int told(int step, int what) {
        if (!isStep(step) || !isBelow(what, 3 + NEEDS)) {
            return BAD;
        }
        switch (what) {
            case 0: return program.owner(step);
            case 1: return program.kind(step);
            case 2: return program.siteOf(step);
            default: return program.need(step, what - 3);
        }
    }

    public int all(int what) {
        if (!isBelow(what, 13)) {
            return BAD;
        }
        sets.solve();
        switch (what) {
            case 0: return program.methods;
            case 1: return program.steps;
            case 2: return program.sites;
            case 3: return sets.live;
            case 4: return program.madeBy(sets.live);
            case 5: return sets.shared;
            case 6: return escapes.outSites();
            case 7: return escapes.ownedSites();
            case 8: return escapes.fixedSites();
            case 9: return escapes.pureMethods();
            case 10: return escapes.freshMethods();
            case 11: return escapes.countIdle();
            default: return sets.greatestLevel;
        }
    }

    public int points(int m, int x) {
        if (!isMethod(m) || !isBelow(x, NAMES)) {
            return BAD;
        }
        sets.solve();
        return sets.ofName(m, x);
    }

    public int field(int site, int f) {
        if (!isSite(site) || !isBelow(f, FIELDS)) {
            return BAD;
        }
        sets.solve();
        return sets.ofField(site, f);
    }

    public int place(int s) {
        if (!isBelow(s, PLACES)) {
            return BAD;
        }
        sets.solve();
        return at(sets.places, s);
    }

    public int result(int m) {
        if (!isMethod(m)) {
            return BAD;
        }
        sets.solve();
        return at(sets.results, m);
    }

    public int of(int site, int what) {
        if (!isSite(site) || !isBelow(what, 7)) {
            return BAD;
        }
        sets.solve();
        switch (what) {
            case 0: return program.methodOfSite(site);
            case 1: return program.maker(site);
            case 2: return at(sets.levels, site);
            case 3: return escapes.countHolders(site);
            case 4: return escapes.holdingSites(site);
            case 5: return escapes.pointingMethods(site);
            default: return escapes.storingMethods(site);
        }
    }

    public int meet(int m, int x, int k, int y) {
        if (!isMethod(m) || !isBelow(x, NAMES) || !isMethod(k) || !isBelow(y, NAMES)) {
            return BAD;
        }
        sets.solve();
        return (sets.ofName(m, x) & sets.ofName(k, y)) != 0 ? 1 : 0;
    }

    public int reach(int m, int x) {
        if (!isMethod(m) || !isBelow(x, NAMES)) {
            return BAD;
        }
        sets.solve();
        return sets.reachedFrom(sets.ofName(m, x));
    }

    public int parameter(int m, int p, int what) {
        if (!isMethod(m) || !isBelow(p, PARAMETERS) || !isBelow(what, 3)) {
            return BAD;
        }
        sets.solve();
        if (!has(sets.live, m)) {
            return NONE;
        }
        marks.spreadFrom(m, p, sets.live);
        switch (what) {
            case 0: return marks.isKept() ? 1 : 0;
            case 1: return has(marks.givers, m) ? 1 : 0;
            default: return marks.countNames();
        }
    }

    public int idle(int step) {
        if (!isStep(step) || program.kind(step) != LOCK) {
            return BAD;
        }
        sets.solve();
        if (!has(sets.live, program.owner(step))) {
            return NONE;
        }
        return escapes.isIdle(step) ? 1 : 0;
    }

    public int calls(int m, int what) {
        if (!isMethod(m) || !isBelow(what, 3)) {
            return BAD;
        }
        sets.solve();
        switch (what) {
            case 0: return at(sets.callees, m);
            case 1: return sets.withCallees(at(sets.callees, m));
            default: return sets.callersOf(m);
        }
    }

    private boolean isMethod(int m) {
        return isBelow(m, program.methods);
    }

    private boolean isStep(int step) {
        return isBelow(step, program.steps);
    }

    private boolean isSite(int site) {
        return isBelow(site, program.sites);
    }

    private static boolean isNameOrNone(int x) {
        return x == NONE || isBelow(x, NAMES);
    }

    private static boolean isBelow(int number, int bound) {
        return number >= 0 && number < bound;
    }

    private static int limitOf(int kind, int which) {
        return at(LIMITS, kind * STEP_NEEDS + which);
    }

    private static boolean fits(int kind, int which, int value) {
        int limit = limitOf(kind, which);
        return limit == 0 || isBelow(value, limit);
    }

    private static int needed(int kind, int which, int value) {
        return limitOf(kind, which) == 0 ? NONE : value;
    }

    private static boolean has(int set, int member) {
        return member >= 0 && member < 32 && ((set >>> member) & 1) != 0;
    }

    // All rows are read and written by these alone, so that no index goes untested.

    private static int at(int[] row, int i) {
        return i >= 0 && i < row.length ? row[i] : 0;
    }

    private static void put(int[] row, int i, int value) {
        if (i >= 0 && i < row.length) {
            row[i] = value;
        }
    }

    private static void fill(int[] row, int value) {
        for (int i = 0; i < row.length; i++) {
            row[i] = value;
        }
    }

    /** Adds a set to the one in a row; whether that one has grown. */
    private static boolean join(int[] row, int i, int set) {
        if (i < 0 || i >= row.length) {
            return false;
        }
        int before = row[i];
        row[i] = before | set;
        return row[i] != before;
    }

    /** The METHODS, their STEPS and the SITES, as they were told. */
    private static final class Program {
        private int methods;
        private int steps;
        private int sites;
        private final int[] owners;
        private final int[] kinds;
        private final int[] stepSites;
        private final int[] needs;
        private final int[] makers;

        Program() {
            methods = 1;
            steps = 0;
            sites = 0;
            owners = new int[STEPS];
            kinds = new int[STEPS];
            stepSites = new int[STEPS];
            needs = new int[STEPS * NEEDS];
            makers = new int[SITES];
        }

        void empty() {
            methods = 1;
            steps = 0;
            sites = 0;
        }

        int addMethod() {
            methods++;
            return methods - 1;
        }

        boolean hasRoomFor(int kind) {
            return steps < STEPS && (kind != NEW || sites < SITES);
        }

        /** A STEP without needs yet: its number. There must be room for it. */
        int addStep(int m, int kind) {
            int number = steps;
            put(owners, number, m);
            put(kinds, number, kind);
            put(stepSites, number, NONE);
            for (int i = 0; i < NEEDS; i++) {
                setNeed(number, i, NONE);
            }
            if (kind == NEW) {
                put(stepSites, number, sites);
                put(makers, sites, number);
                sites++;
            }
            steps++;
            return number;
        }

        /** SITES are numbered as their STEPS are, so the last STEP's SITE is the last SITE. */
        int dropStep() {
            steps--;
            if (kind(steps) == NEW) {
                sites--;
            }
            return steps;
        }

        void setNeed(int step, int which, int value) {
            put(needs, step * NEEDS + which, value);
        }

        int need(int step, int which) {
            return at(needs, step * NEEDS + which);
        }

        int owner(int step) {
            return at(owners, step);
        }

        int kind(int step) {
            return at(kinds, step);
        }

        int siteOf(int step) {
            return at(stepSites, step);
        }

        int maker(int site) {
            return at(makers, site);
        }

        int methodOfSite(int site) {
            return owner(maker(site));
        }

        boolean isIn(int methodSet, int step) {
            return has(methodSet, owner(step));
        }

        /** The SITES whose STEPS are of a set of METHODS. */
        int madeBy(int methodSet) {
            int found = 0;
            for (int s = 0; s < sites; s++) {
                if (has(methodSet, methodOfSite(s))) {
                    found |= 1 << s;
                }
            }
            return found;
        }
    }

    /** LIVE METHODS, what CALLS what, what all points to, and the LEVELS of SHARED SITES. */
    private static final class LeastSets {
        private final Program program;
        private final int[] callees;
        private final int[] names;
        private final int[] fields;
        private final int[] places;
        private final int[] results;
        private final int[] levels;
        private int live;
        private int shared;
        private int greatestLevel;
        private boolean solved;

        LeastSets(Program program) {
            this.program = program;
            callees = new int[METHODS];
            names = new int[METHODS * NAMES];
            fields = new int[SITES * FIELDS];
            places = new int[PLACES];
            results = new int[METHODS];
            levels = new int[SITES];
            live = 1;
            shared = 0;
            greatestLevel = NONE;
            solved = false;
        }

        void forget() {
            solved = false;
        }

        /** The sets are found anew only when they are asked for after a change. */
        void solve() {
            if (solved) {
                return;
            }
            solved = true;
            fill(callees, 0);
            fill(names, 0);
            fill(fields, 0);
            fill(places, 0);
            fill(results, 0);
            findLive();
            boolean grown = true;
            for (int i = 0; grown && i < SWEEPS; i++) {
                grown = sweep();
            }
            findShared();
        }

        private void findLive() {
            for (int s = 0; s < program.steps; s++) {
                if (program.kind(s) == CALL) {
                    join(callees, program.owner(s), 1 << program.need(s, CALLED));
                }
            }
            live = withCallees(1);
            // A CALL in a METHOD that is not LIVE is none.
            for (int m = 0; m < METHODS; m++) {
                if (!has(live, m)) {
                    put(callees, m, 0);
                }
            }
        }

        /** A set of METHODS, with what they CALL, and so on. */
        int withCallees(int methodSet) {
            int found = methodSet;
            for (int round = 0; round < METHODS; round++) {
                for (int m = 0; m < METHODS; m++) {
                    if (has(found, m)) {
                        found |= at(callees, m);
                    }
                }
            }
            return found;
        }

        int callersOf(int m) {
            int found = 0;
            for (int k = 0; k < METHODS; k++) {
                if (has(at(callees, k), m)) {
                    found |= 1 << k;
                }
            }
            return found;
        }

        private boolean sweep() {
            boolean grown = false;
            for (int s = 0; s < program.steps; s++) {
                if (program.isIn(live, s) && flow(s)) {
                    grown = true;
                }
            }
            return grown;
        }

        /** Makes the sets as one STEP tells; whether one has grown. */
        private boolean flow(int s) {
            int m = program.owner(s);
            int a = program.need(s, 0);
            int b = program.need(s, 1);
            int c = program.need(s, 2);
            switch (program.kind(s)) {
                case NEW: return joinName(m, a, 1 << program.siteOf(s));
                case COPY: return joinName(m, a, ofName(m, b));
                case LOAD: return joinName(m, a, ofFieldOfAll(ofName(m, b), c));
                case STORE: return joinFields(ofName(m, a), b, ofName(m, c));
                case TAKE: return joinName(m, a, at(places, b));
                case PUT: return join(places, a, ofName(m, b));
                case CALL: return flowCall(s, m, a);
                case GIVE: return join(results, m, ofName(m, a));
                default: return false;
            }
        }

        private boolean flowCall(int s, int m, int to) {
            boolean grown = false;
            for (int p = 0; p < PARAMETERS; p++) {
                int argument = program.need(s, FIRST_ARGUMENT + p);
                if (argument != NONE && joinName(to, p, ofName(m, argument))) {
                    grown = true;
                }
            }
            int answer = program.need(s, ANSWER);
            if (answer != NONE && joinName(m, answer, at(results, to))) {
                grown = true;
            }
            return grown;
        }

        private boolean joinName(int m, int x, int siteSet) {
            return join(names, m * NAMES + x, siteSet);
        }

        private boolean joinFields(int siteSet, int f, int added) {
            boolean grown = false;
            for (int s = 0; s < SITES; s++) {
                if (has(siteSet, s) && join(fields, s * FIELDS + f, added)) {
                    grown = true;
                }
            }
            return grown;
        }

        int ofName(int m, int x) {
            return at(names, m * NAMES + x);
        }

        int ofField(int site, int f) {
            return at(fields, site * FIELDS + f);
        }

        private int ofFieldOfAll(int siteSet, int f) {
            int found = 0;
            for (int s = 0; s < SITES; s++) {
                if (has(siteSet, s)) {
                    found |= ofField(s, f);
                }
            }
            return found;
        }

        int ofParameters(int m) {
            int found = 0;
            for (int p = 0; p < PARAMETERS; p++) {
                found |= ofName(m, p);
            }
            return found;
        }

        /** What any FIELD of a set of SITES points to. */
        private int heldBy(int siteSet) {
            int found = 0;
            for (int f = 0; f < FIELDS; f++) {
                found |= ofFieldOfAll(siteSet, f);
            }
            return found;
        }

        int reachedFrom(int siteSet) {
            int found = siteSet;
            int front = siteSet;
            for (int i = 0; front != 0 && i < SITES; i++) {
                front = heldBy(front) & ~found;
                found |= front;
            }
            return found;
        }

        private void findShared() {
            fill(levels, NONE);
            shared = 0;
            greatestLevel = NONE;
            int front = openToAll();
            for (int level = 0; front != 0 && level < SITES; level++) {
                setLevel(front, level);
                shared |= front;
                greatestLevel = level;
                front = heldBy(front) & ~shared;
            }
        }

        private void setLevel(int siteSet, int level) {
            for (int s = 0; s < SITES; s++) {
                if (has(siteSet, s)) {
                    put(levels, s, level);
                }
            }
        }

        int ofPlaces() {
            int found = 0;
            for (int s = 0; s < PLACES; s++) {
                found |= at(places, s);
            }
            return found;
        }

        /** What a PLACE points to, or a STEP STARTS or HANDS. */
        private int openToAll() {
            int found = ofPlaces();
            for (int s = 0; s < program.steps; s++) {
                int kind = program.kind(s);
                if (kind == START || kind == HAND) {
                    // The NAMES of a METHOD that is not LIVE point to nothing.
                    found |= ofName(program.owner(s), program.need(s, 0));
                }
            }
            return found;
        }
    }

    /** What follows from the least sets: OUT, OWNED, FIXED, IDLE, FRESH, PURE. */
    private static final class Escapes {
        private final Program program;
        private final LeastSets sets;

        Escapes(Program program, LeastSets sets) {
            this.program = program;
            this.sets = sets;
        }

        int outSites() {
            int found = sets.shared;
            for (int m = 0; m < METHODS; m++) {
                int seen = sets.ofParameters(m) | at(sets.results, m);
                found |= sets.reachedFrom(seen) & program.madeBy(1 << m);
            }
            return found;
        }

        int countHolders(int site) {
            int count = 0;
            for (int s = 0; s < SITES; s++) {
                for (int f = 0; f < FIELDS; f++) {
                    if (has(sets.ofField(s, f), site)) {
                        count++;
                    }
                }
            }
            return count;
        }

        int holdingSites(int site) {
            int found = 0;
            for (int s = 0; s < SITES; s++) {
                if (has(sets.heldBy(1 << s), site)) {
                    found |= 1 << s;
                }
            }
            return found;
        }

        int ownedSites() {
            int placed = sets.ofPlaces();
            int found = 0;
            for (int s = 0; s < program.sites; s++) {
                if (!has(placed, s) && countHolders(s) == 1) {
                    found |= 1 << s;
                }
            }
            return found;
        }

        int pointingMethods(int site) {
            int found = 0;
            for (int m = 0; m < METHODS; m++) {
                for (int x = 0; x < NAMES; x++) {
                    if (has(sets.ofName(m, x), site)) {
                        found |= 1 << m;
                    }
                }
            }
            return found;
        }

        int storingMethods(int site) {
            int found = 0;
            for (int s = 0; s < program.steps; s++) {
                if (program.kind(s) == STORE && has(storedTo(s), site)) {
                    found |= 1 << program.owner(s);
                }
            }
            return found;
        }

        private int storedTo(int s) {
            return sets.ofName(program.owner(s), program.need(s, 0));
        }

        int fixedSites() {
            int liveSites = program.madeBy(sets.live);
            int found = 0;
            for (int s = 0; s < program.sites; s++) {
                int others = storingMethods(s) & ~(1 << program.methodOfSite(s));
                if (has(liveSites, s) && others == 0) {
                    found |= 1 << s;
                }
            }
            return found;
        }

        int pureMethods() {
            int found = 0;
            for (int m = 0; m < METHODS; m++) {
                if (has(sets.live, m) && areHarmless(sets.withCallees(1 << m))) {
                    found |= 1 << m;
                }
            }
            return found;
        }

        /** Whether the STEPS of a set of METHODS change nothing but what these METHODS make. */
        private boolean areHarmless(int methodSet) {
            int foreign = ~program.madeBy(methodSet);
            for (int s = 0; s < program.steps; s++) {
                if (program.isIn(methodSet, s) && isHarm(s, foreign)) {
                    return false;
                }
            }
            return true;
        }

        private boolean isHarm(int s, int foreign) {
            switch (program.kind(s)) {
                case PUT:
                case START:
                case HAND: return true;
                case STORE: return (storedTo(s) & foreign) != 0;
                default: return false;
            }
        }

        int freshMethods() {
            int found = 0;
            for (int m = 0; m < METHODS; m++) {
                if (isFresh(m)) {
                    found |= 1 << m;
                }
            }
            return found;
        }

        private boolean isFresh(int m) {
            int given = at(sets.results, m);
            int known = ~program.madeBy(1 << m) | sets.shared | sets.ofParameters(m)
                | sets.heldBy(program.madeBy(sets.live));
            return given != 0 && (given & known) == 0;
        }

        int countIdle() {
            int count = 0;
            for (int s = 0; s < program.steps; s++) {
                if (program.kind(s) == LOCK && isIdle(s)) {
                    count++;
                }
            }
            return count;
        }

        /** A LOCK of a METHOD that is not LIVE is never IDLE: its NAME points to nothing. */
        boolean isIdle(int s) {
            int locked = sets.ofName(program.owner(s), program.need(s, 0));
            return locked != 0 && (locked & sets.shared) == 0;
        }
    }

    /** The NAMES that are MARKED by one PARAMETER, in STEPS of LIVE METHODS. */
    private static final class Marks {
        private final Program program;
        private final int[] namesOf;
        private int givers;
        private int live;

        Marks(Program program) {
            this.program = program;
            namesOf = new int[METHODS];
            givers = 0;
            live = 0;
        }

        void spreadFrom(int m, int p, int liveMethods) {
            live = liveMethods;
            givers = 0;
            fill(namesOf, 0);
            mark(m, p);
            boolean grown = true;
            // Every sweep but the last marks a NAME more or finds a METHOD more that GIVES one.
            for (int i = 0; grown && i <= METHODS * NAMES + METHODS; i++) {
                grown = sweepMarks();
            }
        }

        private boolean sweepMarks() {
            boolean grown = false;
            for (int s = 0; s < program.steps; s++) {
                if (program.isIn(live, s) && spread(s)) {
                    grown = true;
                }
            }
            return grown;
        }

        private boolean spread(int s) {
            int m = program.owner(s);
            switch (program.kind(s)) {
                case COPY: return isMarked(m, program.need(s, 1)) && mark(m, program.need(s, 0));
                case CALL: return spreadCall(s, m, program.need(s, CALLED));
                case GIVE: return isMarked(m, program.need(s, 0)) && addGiver(m);
                default: return false;
            }
        }

        private boolean spreadCall(int s, int m, int to) {
            boolean grown = false;
            for (int p = 0; p < PARAMETERS; p++) {
                if (isMarked(m, program.need(s, FIRST_ARGUMENT + p)) && mark(to, p)) {
                    grown = true;
                }
            }
            int answer = program.need(s, ANSWER);
            if (answer != NONE && has(givers, to) && mark(m, answer)) {
                grown = true;
            }
            return grown;
        }

        private boolean mark(int m, int x) {
            return join(namesOf, m, 1 << x);
        }

        /** NONE is never MARKED. */
        private boolean isMarked(int m, int x) {
            return has(at(namesOf, m), x);
        }

        private boolean addGiver(int m) {
            int before = givers;
            givers |= 1 << m;
            return givers != before;
        }

        boolean isKept() {
            for (int s = 0; s < program.steps; s++) {
                if (program.isIn(live, s) && isMarked(program.owner(s), keptName(s))) {
                    return true;
                }
            }
            return false;
        }

        /** The NAME whose SITES a STEP keeps somewhere; NONE if it keeps nothing. */
        private int keptName(int s) {
            switch (program.kind(s)) {
                case STORE: return program.need(s, 2);
                case PUT: return program.need(s, 1);
                case START:
                case HAND: return program.need(s, 0);
                default: return NONE;
            }
        }

        int countNames() {
            int count = 0;
            for (int m = 0; m < METHODS; m++) {
                count += Integer.bitCount(at(namesOf, m));
            }
            return count;
        }
    }
}
