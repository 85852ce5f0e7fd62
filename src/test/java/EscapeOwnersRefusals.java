import java.util.ArrayList;
import java.util.Arrays;
import java.util.List;
import java.util.function.Consumer;

/**
 * Every argument of every call at the last number within its bounds, at the first beyond them and
 * far away, in states from empty to full; and that what is refused, asked or undone changes nothing.
 */
public final class EscapeOwnersRefusals {
    private static final int NONE = EscapeOwners.NONE, BAD = EscapeOwners.BAD, FULL = EscapeOwners.FULL;
    private static final int MIN = Integer.MIN_VALUE, MAX = Integer.MAX_VALUE;
    private static final int NEW = 0, COPY = 1, LOAD = 2, STORE = 3, TAKE = 4, PUT = 5;
    private static final int GIVE = 7, START = 8, HAND = 9, LOCK = 10;

    /** Far numbers, and those that would wrap around to a good one by a shift or a cut to fewer bits. */
    private static final int[] FAR = {
        MIN, MIN + 1, MIN + 7, -65536, -256, -65, -64, -33, -32, -31, -9, -8, -4, -3, -2,
        64, 65, 96, 128, 256, 257, 65536, 65537, 1 << 30, MAX - 1, MAX
    };

    /** An object may be used for 512 calls; the longest state below takes some 100. */
    private static final int CHUNK = 340;
    private static final List<int[]> QUESTIONS = questions();

    private static int wrong = 0;

    public static void main(String[] args) {
        List<State> states = List.of(
            new State("a new object", 1, 0, 0, x -> { }),
            new State("some of all", 4, 22, 4, EscapeOwnersRefusals::buildSome),
            new State("all METHODS, no STEP", 8, 0, 0, x -> addMethods(x, 8)),
            new State("all SITES", 2, 16, 16, EscapeOwnersRefusals::buildAllSites),
            new State("all STEPS, few SITES", 2, 64, 1, EscapeOwnersRefusals::buildAllSteps),
            new State("all is full", 8, 64, 16, EscapeOwnersRefusals::buildFull),
            new State("one undone from full", 8, 63, 16, x -> { buildFull(x); x.undo(); }),
            new State("cleared from full", 1, 0, 0, x -> { buildFull(x); x.clear(); }),
            new State("all undone", 4, 0, 0, x -> { buildSome(x); undoAll(x); }));
        for (State state : states) {
            counts(state);
            for (Call call : CALLS) {
                withinBounds(state, call);
                beyondBounds(state, call);
            }
            fullIsRefused(state);
            noneIsRefused(state);
            askingChangesNothing(state);
            undoTakesBack(state);
            clearIsAsAtFirst(state);
        }
        objectsAreApart();
        System.out.println(wrong == 0 ? "all answers are as due" : wrong + " answers are not as due");
        if (wrong != 0) {
            System.exit(1);
        }
    }

    /** What a script has built, with the numbers that are then within bounds. */
    private static final class State {
        private final String name;
        private final int methods, steps, sites;
        private final Consumer<EscapeOwners> script;
        private final int[] picture;

        State(String name, int methods, int steps, int sites, Consumer<EscapeOwners> script) {
            this.name = name;
            this.methods = methods;
            this.steps = steps;
            this.sites = sites;
            this.script = script;
            picture = pictureOf(script);
        }

        EscapeOwners build() {
            EscapeOwners x = new EscapeOwners();
            script.accept(x);
            return x;
        }
    }

    // ---- states

    private static void addMethods(EscapeOwners x, int methods) {
        for (int i = 1; i < methods; i++) {
            x.method();
        }
    }

    /** Every KIND in LIVE METHODS 0 to 2; METHOD 3 is not LIVE. */
    private static void buildSome(EscapeOwners x) {
        addMethods(x, 4);
        x.step(0, NEW, 3, 0, 0);
        x.step(0, NEW, 4, 0, 0);
        x.step(0, STORE, 3, 1, 4);
        x.step(0, LOAD, 5, 3, 1);
        x.step(0, COPY, 6, 5, 0);
        x.call(0, 1, 3, NONE, 6, 7);
        x.step(0, LOCK, 3, 0, 0);
        x.step(0, LOCK, 7, 0, 0);
        x.step(1, NEW, 3, 0, 0);
        x.step(1, STORE, 0, 3, 3);
        x.step(1, GIVE, 3, 0, 0);
        x.call(1, 2, 0, 2, 3, NONE);
        x.step(2, PUT, 2, 1, 0);
        x.step(2, TAKE, 4, 2, 0);
        x.step(2, START, 4, 0, 0);
        x.step(2, LOCK, 4, 0, 0);
        x.step(2, GIVE, 2, 0, 0);
        x.step(3, NEW, 0, 0, 0);
        x.step(3, HAND, 0, 0, 0);
        x.step(3, LOCK, 0, 0, 0);
        x.step(3, STORE, 0, 0, 0);
        x.call(3, 0, 0, 0, 0, 0);
    }

    private static void buildAllSites(EscapeOwners x) {
        addMethods(x, 2);
        for (int i = 0; i < 16; i++) {
            x.step(i % 2, NEW, i / 2, 0, 0);
        }
    }

    private static void buildAllSteps(EscapeOwners x) {
        addMethods(x, 2);
        x.step(0, NEW, 3, 0, 0);
        x.call(0, 1, 3, 3, 3, NONE);
        for (int i = 2; i < 64; i++) {
            x.step(i % 2, LOCK, i % 8, 0, 0);
        }
    }

    /** 8 METHODS of 8 STEPS each, 16 SITES, all of it LIVE, the last STEP a LOCK. */
    private static void buildFull(EscapeOwners x) {
        addMethods(x, 8);
        for (int m = 0; m < 8; m++) {
            x.step(m, NEW, 3, 0, 0);
            x.step(m, NEW, 4, 0, 0);
            x.step(m, STORE, 3, m % 4, 4);
            x.step(m, STORE, 0, (m + 1) % 4, 3);
            x.call(m, (m + 1) % 8, m % 2 == 0 ? 4 : NONE, NONE, 0, 5);
            x.step(m, m == 5 ? PUT : GIVE, 3, 3, 0);
            x.step(m, COPY, 6, 5, 0);
            x.step(m, LOCK, 6, 0, 0);
        }
    }

    private static void undoAll(EscapeOwners x) {
        for (int i = 0; i < 64 && x.undo() > 0; i++) {
            // undo has done it
        }
    }

    // ---- the picture: all that an object answers

    private static List<int[]> questions() {
        List<int[]> all = new ArrayList<>();
        cross(all, TOLD, 65, 8);
        cross(all, ALL, 13);
        cross(all, POINTS, 8, 8);
        cross(all, FIELD, 16, 4);
        cross(all, PLACE, 4);
        cross(all, RESULT, 8);
        cross(all, OF, 16, 7);
        for (int i = 0; i < 128; i++) {
            all.add(new int[] {MEET, i % 8, i / 8 % 8, i * 5 / 8 % 8, i * 3 % 8});
        }
        cross(all, REACH, 8, 8);
        cross(all, PARAMETER, 8, 3, 3);
        cross(all, IDLE, 65);
        cross(all, CALLS_OF, 8, 3);
        return all;
    }

    private static void cross(List<int[]> all, int call, int... bounds) {
        int count = 1;
        for (int bound : bounds) {
            count *= bound;
        }
        for (int i = 0; i < count; i++) {
            int[] question = new int[bounds.length + 1];
            question[0] = call;
            int rest = i;
            for (int k = 0; k < bounds.length; k++) {
                question[k + 1] = rest % bounds[k];
                rest /= bounds[k];
            }
            all.add(question);
        }
    }

    private static int[] pictureOf(Consumer<EscapeOwners> script) {
        int[] answers = new int[QUESTIONS.size()];
        EscapeOwners x = null;
        for (int i = 0; i < answers.length; i++) {
            if (i % CHUNK == 0) {
                x = new EscapeOwners();
                script.accept(x);
            }
            int[] question = QUESTIONS.get(i);
            answers[i] = make(x, question[0], Arrays.copyOfRange(question, 1, question.length));
        }
        return answers;
    }

    private static void samePicture(String what, State state, Consumer<EscapeOwners> script, int[] want) {
        int[] got = pictureOf(script);
        for (int i = 0; i < want.length; i++) {
            if (got[i] != want[i]) {
                wrong++;
                int[] question = QUESTIONS.get(i);
                System.out.println(state.name + ": after " + what + ", " + CALLS[question[0]].name
                    + Arrays.toString(Arrays.copyOfRange(question, 1, question.length))
                    + " answered " + got[i] + ", due is " + want[i]);
                return;
            }
        }
    }

    // ---- the calls and the bounds of their arguments

    private static final int METHOD_ADD = 0, CLEAR = 1, UNDO = 2, STEP = 3, CALL = 4, TOLD = 5, ALL = 6,
        POINTS = 7, FIELD = 8, PLACE = 9, RESULT = 10, OF = 11, MEET = 12, REACH = 13, PARAMETER = 14,
        IDLE = 15, CALLS_OF = 16;

    private enum Bound { METHOD, NAME, NAME_OR_NONE, FIELD, PLACE, SITE, STEP, LOCK_STEP, PARAMETER, WHAT, KIND_GIVEN, FREE }

    private static final class Call {
        private final int number;
        private final String name;
        private final int whats;
        private final Bound[] bounds;
        private final int kind;

        Call(int number, String name, int whats, int kind, Bound... bounds) {
            this.number = number;
            this.name = name;
            this.whats = whats;
            this.kind = kind;
            this.bounds = bounds;
        }

        boolean changes() {
            return number == STEP || number == CALL;
        }

        int lowest(int which) {
            return bounds[which] == Bound.NAME_OR_NONE ? NONE : bounds[which] == Bound.KIND_GIVEN ? kind : 0;
        }

        /** The last number that is within the bounds; one less than the lowest if there is none. */
        int greatest(int which, State state) {
            switch (bounds[which]) {
                case METHOD: return state.methods - 1;
                case NAME: case NAME_OR_NONE: return 7;
                case FIELD: case PLACE: return 3;
                case SITE: return state.sites - 1;
                case STEP: case LOCK_STEP: return state.steps - 1;
                case PARAMETER: return 2;
                case WHAT: return whats - 1;
                case KIND_GIVEN: return kind;
                default: return 0;
            }
        }
    }

    private static Call stepOf(int kind, Bound a, Bound b, Bound c) {
        return new Call(STEP, "step", 0, kind, Bound.METHOD, Bound.KIND_GIVEN, a, b, c);
    }

    private static final Call[] CALLS = {
        new Call(METHOD_ADD, "method", 0, 0),
        new Call(CLEAR, "clear", 0, 0),
        new Call(UNDO, "undo", 0, 0),
        stepOf(NEW, Bound.NAME, Bound.FREE, Bound.FREE),
        new Call(CALL, "call", 0, 0, Bound.METHOD, Bound.METHOD, Bound.NAME_OR_NONE, Bound.NAME_OR_NONE,
            Bound.NAME_OR_NONE, Bound.NAME_OR_NONE),
        new Call(TOLD, "told", 8, 0, Bound.STEP, Bound.WHAT),
        new Call(ALL, "all", 13, 0, Bound.WHAT),
        new Call(POINTS, "points", 0, 0, Bound.METHOD, Bound.NAME),
        new Call(FIELD, "field", 0, 0, Bound.SITE, Bound.FIELD),
        new Call(PLACE, "place", 0, 0, Bound.PLACE),
        new Call(RESULT, "result", 0, 0, Bound.METHOD),
        new Call(OF, "of", 7, 0, Bound.SITE, Bound.WHAT),
        new Call(MEET, "meet", 0, 0, Bound.METHOD, Bound.NAME, Bound.METHOD, Bound.NAME),
        new Call(REACH, "reach", 0, 0, Bound.METHOD, Bound.NAME),
        new Call(PARAMETER, "parameter", 3, 0, Bound.METHOD, Bound.PARAMETER, Bound.WHAT),
        new Call(IDLE, "idle", 0, 0, Bound.LOCK_STEP),
        new Call(CALLS_OF, "calls", 3, 0, Bound.METHOD, Bound.WHAT),
        stepOf(COPY, Bound.NAME, Bound.NAME, Bound.FREE),
        stepOf(LOAD, Bound.NAME, Bound.NAME, Bound.FIELD),
        stepOf(STORE, Bound.NAME, Bound.FIELD, Bound.NAME),
        stepOf(TAKE, Bound.NAME, Bound.PLACE, Bound.FREE),
        stepOf(PUT, Bound.PLACE, Bound.NAME, Bound.FREE),
        stepOf(GIVE, Bound.NAME, Bound.FREE, Bound.FREE),
        stepOf(START, Bound.NAME, Bound.FREE, Bound.FREE),
        stepOf(HAND, Bound.NAME, Bound.FREE, Bound.FREE),
        stepOf(LOCK, Bound.NAME, Bound.FREE, Bound.FREE)
    };

    private static int make(EscapeOwners x, int call, int[] a) {
        switch (call) {
            case METHOD_ADD: return x.method();
            case CLEAR: return x.clear();
            case UNDO: return x.undo();
            case STEP: return x.step(a[0], a[1], a[2], a[3], a[4]);
            case CALL: return x.call(a[0], a[1], a[2], a[3], a[4], a[5]);
            case TOLD: return x.told(a[0], a[1]);
            case ALL: return x.all(a[0]);
            case POINTS: return x.points(a[0], a[1]);
            case FIELD: return x.field(a[0], a[1]);
            case PLACE: return x.place(a[0]);
            case RESULT: return x.result(a[0]);
            case OF: return x.of(a[0], a[1]);
            case MEET: return x.meet(a[0], a[1], a[2], a[3]);
            case REACH: return x.reach(a[0], a[1]);
            case PARAMETER: return x.parameter(a[0], a[1], a[2]);
            case IDLE: return x.idle(a[0]);
            default: return x.calls(a[0], a[1]);
        }
    }

    // ---- the checks

    private static void due(State state, String call, int[] a, int got, int want) {
        if (got != want) {
            wrong++;
            System.out.println(state.name + ": " + call + Arrays.toString(a) + " answered " + got + ", due is " + want);
        }
    }

    private static void counts(State state) {
        EscapeOwners x = state.build();
        due(state, "all", new int[] {0}, x.all(0), state.methods);
        due(state, "all", new int[] {1}, x.all(1), state.steps);
        due(state, "all", new int[] {2}, x.all(2), state.sites);
    }

    private static int[] lowestOf(Call call) {
        int[] a = new int[call.bounds.length];
        for (int i = 0; i < a.length; i++) {
            a[i] = call.lowest(i);
        }
        return a;
    }

    private static int[] greatestOf(Call call, State state) {
        int[] a = new int[call.bounds.length];
        for (int i = 0; i < a.length; i++) {
            a[i] = call.greatest(i, state);
        }
        return a;
    }

    private static boolean isPossible(Call call, State state) {
        for (int i = 0; i < call.bounds.length; i++) {
            if (call.greatest(i, state) < call.lowest(i)) {
                return false;
            }
        }
        return true;
    }

    /** What STEP and CALL answer when all is within bounds: FULL, or the next number. */
    private static int dueOfGood(Call call, State state) {
        boolean room = state.steps < 64 && (call.number != STEP || call.kind != NEW || state.sites < 16);
        return room ? state.steps : FULL;
    }

    /** Each argument at each number within its bounds, the others at their lowest and greatest. */
    private static void withinBounds(State state, Call call) {
        if (call.bounds.length == 0 || !isPossible(call, state)) {
            return;
        }
        for (int i = 0; i < call.bounds.length; i++) {
            for (int value = call.lowest(i); value <= call.greatest(i, state); value++) {
                int[] low = lowestOf(call), high = greatestOf(call, state);
                low[i] = value;
                high[i] = value;
                oneWithin(state, call, low);
                oneWithin(state, call, high);
            }
            for (int k = 0; call.bounds[i] == Bound.FREE && k < FAR.length; k++) {
                int[] free = greatestOf(call, state);
                free[i] = FAR[k];
                oneWithin(state, call, free);
            }
        }
    }

    private static void oneWithin(State state, Call call, int[] a) {
        EscapeOwners x = state.build();
        int got = make(x, call.number, a);
        if (call.changes()) {
            due(state, call.name, a, got, dueOfGood(call, state));
            due(state, call.name + ", then all(1) after", a, x.all(1), Math.min(64, state.steps + (got == FULL ? 0 : 1)));
        } else if (call.number == IDLE) {
            boolean isLock = x.told(a[0], 1) == LOCK;
            due(state, "not BAD is idle", a, got == BAD ? 0 : 1, isLock ? 1 : 0);
        } else {
            due(state, "not BAD is " + call.name, a, got == BAD || got == FULL ? 0 : 1, 1);
        }
    }

    /** Each argument beyond its bounds, the others within them if they can be, and beyond them too. */
    private static void beyondBounds(State state, Call call) {
        for (int i = 0; i < call.bounds.length; i++) {
            if (call.bounds[i] == Bound.FREE || call.bounds[i] == Bound.KIND_GIVEN) {
                continue;
            }
            for (int value : valuesBeyond(call.lowest(i), call.greatest(i, state))) {
                int[] low = lowestOf(call), high = greatestOf(call, state);
                low[i] = value;
                high[i] = value;
                refused(state, call, low);
                refused(state, call, high);
                for (int k = i + 1; k < call.bounds.length; k++) {
                    if (call.bounds[k] != Bound.KIND_GIVEN) {
                        int[] two = low.clone();
                        two[k] = value;
                        due(state, call.name, two, make(state.build(), call.number, two), BAD);
                    }
                }
            }
        }
        if (call.number == STEP) {
            kindsBeyond(state, call);
        }
    }

    private static int[] valuesBeyond(int lowest, int greatest) {
        List<Integer> values = new ArrayList<>();
        values.add(lowest - 1);
        values.add(greatest + 1);
        for (int far : FAR) {
            if (far < lowest - 1 || far > greatest + 1) {
                values.add(far);
            }
        }
        return values.stream().mapToInt(v -> v).toArray();
    }

    private static void kindsBeyond(State state, Call call) {
        int[] kinds = {-1, 6, 11, 12, 16, 32, MIN, MIN + 6, -6, 64, 256, MAX};
        for (int kind : kinds) {
            int[] a = lowestOf(call);
            a[1] = kind;
            refused(state, call, a);
        }
    }

    private static void refused(State state, Call call, int[] a) {
        due(state, call.name, a, make(state.build(), call.number, a), BAD);
        changesNothing(state, call.name + Arrays.toString(a), x -> make(x, call.number, a));
    }

    private static void changesNothing(State state, String what, Consumer<EscapeOwners> nothing) {
        samePicture(what, state, x -> { state.script.accept(x); nothing.accept(x); }, state.picture);
    }

    /** Changes that would bring to light what an earlier call has left behind unseen. */
    private static void goOn(EscapeOwners x) {
        x.undo();
        x.undo();
        x.method();
        x.call(0, x.all(0) - 1, 3, NONE, 0, 4);
        x.step(0, NEW, 3, 0, 0);
    }

    private static void fullIsRefused(State state) {
        if (state.methods == 8) {
            due(state, "method", new int[0], state.build().method(), FULL);
            changesNothing(state, "method()", x -> x.method());
        }
        for (Call call : CALLS) {
            if (call.changes() && dueOfGood(call, state) == FULL) {
                int[] a = greatestOf(call, state);
                due(state, call.name, a, make(state.build(), call.number, a), FULL);
                changesNothing(state, call.name + Arrays.toString(a), x -> make(x, call.number, a));
                int[] wantPicture = pictureOf(x -> { state.script.accept(x); goOn(x); });
                samePicture("a refused " + call.name + " and more", state,
                    x -> { state.script.accept(x); make(x, call.number, a); goOn(x); }, wantPicture);
            }
        }
    }

    private static void noneIsRefused(State state) {
        if (state.steps == 0) {
            due(state, "undo", new int[0], state.build().undo(), NONE);
            changesNothing(state, "undo()", x -> x.undo());
        }
    }

    /** Every question asked before and between changes leaves the later answers as they are. */
    private static void askingChangesNothing(State state) {
        int[] wantPicture = pictureOf(x -> { state.script.accept(x); goOn(x); });
        for (int[] question : QUESTIONS) {
            int[] a = Arrays.copyOfRange(question, 1, question.length);
            EscapeOwners x = state.build();
            int got = make(x, question[0], a);
            due(state, CALLS[question[0]].name + " asked again", a, make(x, question[0], a), got);
        }
        for (int call = TOLD; call <= CALLS_OF; call++) {
            int number = call;
            int[] a = new int[CALLS[call].bounds.length];
            changesNothing(state, CALLS[call].name, x -> make(x, number, a));
            samePicture(CALLS[call].name + " and more", state,
                x -> { make(x, number, a); state.script.accept(x); make(x, number, a); goOn(x); }, wantPicture);
        }
    }

    /** Whatever STEP is the last one, nothing of it is left when it is undone. */
    private static void undoTakesBack(State state) {
        for (Call call : CALLS) {
            if (call.changes() && dueOfGood(call, state) != FULL) {
                int[] low = lowestOf(call), high = greatestOf(call, state);
                samePicture("undo of " + call.name + Arrays.toString(low), state,
                    x -> { state.script.accept(x); make(x, call.number, low); x.all(6); x.undo(); }, state.picture);
                samePicture("undo of " + call.name + Arrays.toString(high), state,
                    x -> { state.script.accept(x); make(x, call.number, high); x.all(6); x.undo(); }, state.picture);
                EscapeOwners x = state.build();
                make(x, call.number, high);
                due(state, "undo after " + call.name, high, x.undo(), state.steps);
            }
        }
    }

    private static void clearIsAsAtFirst(State state) {
        due(state, "clear", new int[0], state.build().clear(), state.steps);
        samePicture("clear()", state, x -> { state.script.accept(x); x.clear(); }, pictureOf(x -> { }));
        samePicture("asking and clear()", state,
            x -> { state.script.accept(x); x.all(6); x.clear(); }, pictureOf(x -> { }));
        samePicture("clear() and the same again", state,
            x -> { state.script.accept(x); x.all(12); x.clear(); state.script.accept(x); }, state.picture);
    }

    private static void objectsAreApart() {
        State some = new State("two objects", 4, 22, 4, EscapeOwnersRefusals::buildSome);
        samePicture("another object's calls", some, x -> {
            EscapeOwners other = new EscapeOwners();
            buildFull(other);
            buildSome(x);
            other.all(6);
            other.clear();
        }, some.picture);
    }
}
