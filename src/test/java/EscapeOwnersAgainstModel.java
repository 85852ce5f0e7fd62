import java.util.ArrayList;
import java.util.Arrays;
import java.util.HashMap;
import java.util.HashSet;
import java.util.List;
import java.util.Map;
import java.util.Random;
import java.util.Set;
import java.util.TreeSet;

/**
 * Many runs of calls, the same in every test run, each answer held against a slow model that is
 * written from the document's words, with sets of facts instead of bits.
 */
public final class EscapeOwnersAgainstModel {
    private static final int RUNS = 3000, CALLS = 512;
    private static final int[] ODD = {-1, -2, -3, 8, 16, 64, Integer.MIN_VALUE, Integer.MAX_VALUE};

    private static int wrong = 0;
    private final Random random;
    private final EscapeOwners real = new EscapeOwners();
    private final Model model = new Model();
    private final int run;
    private final int methodBound;
    private final int nameBound;

    private EscapeOwnersAgainstModel(int run) {
        this.run = run;
        random = new Random(run);
        methodBound = 1 + random.nextInt(8);
        nameBound = 3 + random.nextInt(6);
    }

    public static void main(String[] args) {
        for (int run = 0; run < RUNS && wrong < 20; run++) {
            new EscapeOwnersAgainstModel(run).play();
        }
        System.out.println(wrong == 0 ? "all answers are as due" : wrong + " answers are not as due");
        if (wrong != 0) {
            System.exit(1);
        }
    }

    private void play() {
        int building = 20 + random.nextInt(80);
        for (int call = 0; call < CALLS && wrong < 20; call++) {
            boolean build = call < building || random.nextInt(40) == 0;
            if (build) {
                change();
            } else {
                ask();
            }
        }
    }

    private void due(String call, int got, int want, int... with) {
        if (got != want) {
            wrong++;
            System.out.println("run " + run + ": " + call + Arrays.toString(with) + " answered " + got + ", due is " + want);
        }
    }

    /** Mostly a number below the bound, now and then any. */
    private int below(int bound) {
        return random.nextInt(60) == 0 ? ODD[random.nextInt(ODD.length)] : random.nextInt(bound);
    }

    private int someMethod() {
        return below(Math.max(1, model.methods));
    }

    private int someName() {
        return below(nameBound);
    }

    private int nameOrNone() {
        return random.nextInt(3) == 0 ? -1 : someName();
    }

    private void change() {
        int dice = random.nextInt(100);
        if (model.methods < methodBound && dice < 30) {
            due("method", real.method(), model.method());
        } else if (dice < 32) {
            due("undo", real.undo(), model.undo());
        } else if (dice == 32 && random.nextInt(10) == 0) {
            due("clear", real.clear(), model.clear());
        } else if (dice == 33 && random.nextInt(4) == 0) {
            due("method", real.method(), model.method());
        } else if (dice < 52) {
            changeByCall();
        } else {
            changeByStep();
        }
    }

    private void changeByCall() {
        int m = someMethod(), to = someMethod();
        int x = nameOrNone(), y = nameOrNone(), z = nameOrNone(), r = nameOrNone();
        due("call", real.call(m, to, x, y, z, r), model.call(m, to, x, y, z, r), m, to, x, y, z, r);
    }

    private void changeByStep() {
        // NEW, STORE, LOAD, GIVE are drawn more often; what shares all is drawn seldom.
        int[] kinds = {0, 0, 0, 1, 1, 2, 2, 3, 3, 3, 3, 4, 7, 7, 10, 10};
        int kind = random.nextInt(8) == 0 ? below(11) : kinds[random.nextInt(kinds.length)];
        if (run % 4 == 0 && random.nextInt(3) == 0) {
            kind = 0;   // so that some runs come to the last SITE
        }
        int m = someMethod();
        int a = kind == 5 ? below(4) : someName();
        int b = kind == 3 || kind == 4 ? below(4) : someName();
        int c = kind == 2 ? below(4) : someName();
        due("step", real.step(m, kind, a, b, c), model.step(m, kind, a, b, c), m, kind, a, b, c);
    }

    private void ask() {
        int m = someMethod(), x = below(8), k = someMethod(), y = below(8);
        int site = below(Math.max(1, model.sites().size())), step = below(Math.max(1, model.steps.size()));
        switch (random.nextInt(13)) {
            case 0: due("told", real.told(step, y), model.told(step, y), step, y); break;
            case 1: case 2: int w = below(13); due("all", real.all(w), model.all(w), w); break;
            case 3: due("points", real.points(m, x), model.points(m, x), m, x); break;
            case 4: int f = below(4); due("field", real.field(site, f), model.field(site, f), site, f); break;
            case 5: int p = below(4); due("place", real.place(p), model.place(p), p); break;
            case 6: due("result", real.result(m), model.result(m), m); break;
            case 7: int o = below(7); due("of", real.of(site, o), model.of(site, o), site, o); break;
            case 8: due("meet", real.meet(m, x, k, y), model.meet(m, x, k, y), m, x, k, y); break;
            case 9: due("reach", real.reach(m, x), model.reach(m, x), m, x); break;
            case 10: int q = below(3), v = below(3); due("parameter", real.parameter(m, q, v), model.parameter(m, q, v), m, q, v); break;
            case 11: int l = model.someLock(step); due("idle", real.idle(l), model.idle(l), l); break;
            default: int u = below(3); due("calls", real.calls(m, u), model.calls(m, u), m, u);
        }
    }

    /** The document's words as sets of facts, found anew after each change. */
    private static final class Model {
        static final String FORMS = "n nn nnf nfn np pn - n n n n";

        int methods = 1;
        final List<int[]> steps = new ArrayList<>();   // METHOD, KIND, then five needs
        Facts facts;

        int method() {
            if (methods == 8) {
                return -3;
            }
            facts = null;
            return methods++;
        }

        int clear() {
            int before = steps.size();
            steps.clear();
            methods = 1;
            facts = null;
            return before;
        }

        int undo() {
            if (steps.isEmpty()) {
                return -1;
            }
            steps.remove(steps.size() - 1);
            facts = null;
            return steps.size();
        }

        static boolean in(int value, int bound) {
            return 0 <= value && value < bound;
        }

        int step(int m, int kind, int... given) {
            if (!in(m, methods) || !in(kind, 11) || kind == 6) {
                return -2;
            }
            String form = FORMS.split(" ")[kind];
            int[] row = {m, kind, -1, -1, -1, -1, -1};
            for (int i = 0; i < form.length(); i++) {
                if (!in(given[i], form.charAt(i) == 'n' ? 8 : 4)) {
                    return -2;
                }
                row[2 + i] = given[i];
            }
            if (steps.size() == 64 || kind == 0 && sites().size() == 16) {
                return -3;
            }
            return added(row);
        }

        int call(int m, int to, int x, int y, int z, int r) {
            if (!in(m, methods) || !in(to, methods)) {
                return -2;
            }
            for (int n : new int[] {x, y, z, r}) {
                if (n != -1 && !in(n, 8)) {
                    return -2;
                }
            }
            return steps.size() == 64 ? -3 : added(new int[] {m, 6, to, x, y, z, r});
        }

        private int added(int[] row) {
            facts = null;
            steps.add(row);
            return steps.size() - 1;
        }

        /** The STEPS of the SITES, in their order. */
        List<Integer> sites() {
            List<Integer> found = new ArrayList<>();
            for (int i = 0; i < steps.size(); i++) {
                if (steps.get(i)[1] == 0) {
                    found.add(i);
                }
            }
            return found;
        }

        int someLock(int near) {
            for (int i = Math.max(0, near); i < steps.size(); i++) {
                if (steps.get(i)[1] == 10) {
                    return i;
                }
            }
            return near;
        }

        Facts facts() {
            if (facts == null) {
                facts = new Facts(methods, steps, sites());
            }
            return facts;
        }

        int told(int step, int what) {
            if (!in(step, steps.size()) || !in(what, 8)) {
                return -2;
            }
            if (what == 2) {
                return sites().indexOf(step);
            }
            return steps.get(step)[what < 2 ? what : what - 1];
        }

        int all(int what) {
            if (!in(what, 13)) {
                return -2;
            }
            switch (what) {
                case 0: return methods;
                case 1: return steps.size();
                case 2: return sites().size();
                default: return facts().all(what);
            }
        }

        int points(int m, int x) {
            return in(m, methods) && in(x, 8) ? bits(facts().name(m, x)) : -2;
        }

        int field(int site, int f) {
            return in(site, sites().size()) && in(f, 4) ? bits(facts().of("f" + site + "." + f)) : -2;
        }

        int place(int s) {
            return in(s, 4) ? bits(facts().of("p" + s)) : -2;
        }

        int result(int m) {
            return in(m, methods) ? bits(facts().of("r" + m)) : -2;
        }

        int of(int site, int what) {
            if (!in(site, sites().size()) || !in(what, 7)) {
                return -2;
            }
            int step = sites().get(site);
            return what == 0 ? steps.get(step)[0] : what == 1 ? step : facts().ofSite(site, what);
        }

        int meet(int m, int x, int k, int y) {
            if (!in(m, methods) || !in(k, methods) || !in(x, 8) || !in(y, 8)) {
                return -2;
            }
            Set<Integer> common = new HashSet<>(facts().name(m, x));
            common.retainAll(facts().name(k, y));
            return common.isEmpty() ? 0 : 1;
        }

        int reach(int m, int x) {
            return in(m, methods) && in(x, 8) ? bits(facts().reach(facts().name(m, x))) : -2;
        }

        int parameter(int m, int p, int what) {
            if (!in(m, methods) || !in(p, 3) || !in(what, 3)) {
                return -2;
            }
            return facts().live.contains(m) ? facts().parameter(m, p, what) : -1;
        }

        int idle(int step) {
            if (!in(step, steps.size()) || steps.get(step)[1] != 10) {
                return -2;
            }
            int[] row = steps.get(step);
            return !facts().live.contains(row[0]) ? -1 : facts().isIdle(row) ? 1 : 0;
        }

        int calls(int m, int what) {
            if (!in(m, methods) || !in(what, 3)) {
                return -2;
            }
            return bits(what == 0 ? facts().called(m) : what == 1 ? facts().calledByAll(m) : facts().callers(m));
        }
    }

    private static int bits(Set<Integer> set) {
        int found = 0;
        for (int s : set) {
            found |= 1 << s;
        }
        return found;
    }

    private static final class Facts {
        final int methods;
        final List<int[]> steps = new ArrayList<>();       // those of LIVE METHODS
        final Map<Integer, Integer> madeIn = new HashMap<>();   // LIVE SITE to METHOD
        final Map<int[], Integer> siteOf = new HashMap<>();
        final Set<Integer> live = new TreeSet<>();
        final Map<String, Set<Integer>> points = new HashMap<>();
        final Map<Integer, Integer> levels = new HashMap<>();

        Facts(int methods, List<int[]> told, List<Integer> sites) {
            this.methods = methods;
            live.add(0);
            for (int before = 0; before != live.size();) {
                before = live.size();
                for (int[] row : told) {
                    if (row[1] == 6 && live.contains(row[0])) {
                        live.add(row[2]);
                    }
                }
            }
            for (int i = 0; i < told.size(); i++) {
                if (live.contains(told.get(i)[0])) {
                    steps.add(told.get(i));
                    if (sites.contains(i)) {
                        madeIn.put(sites.indexOf(i), told.get(i)[0]);
                        siteOf.put(told.get(i), sites.indexOf(i));
                    }
                }
            }
            while (widen()) {
                continue;
            }
            findLevels();
        }

        Set<Integer> of(String key) {
            return points.computeIfAbsent(key, k -> new TreeSet<>());
        }

        Set<Integer> name(int m, int x) {
            return of("n" + m + "." + x);
        }

        private boolean widen() {
            boolean more = false;
            for (int[] row : steps) {
                int m = row[0], a = row[2], b = row[3], c = row[4];
                switch (row[1]) {
                    case 0: more |= name(m, a).add(siteOf.get(row)); break;
                    case 1: more |= name(m, a).addAll(new TreeSet<>(name(m, b))); break;
                    case 2:
                        for (int s : new TreeSet<>(name(m, b))) {
                            more |= name(m, a).addAll(of("f" + s + "." + c));
                        }
                        break;
                    case 3:
                        for (int s : new TreeSet<>(name(m, a))) {
                            more |= of("f" + s + "." + b).addAll(name(m, c));
                        }
                        break;
                    case 4: more |= name(m, a).addAll(of("p" + b)); break;
                    case 5: more |= of("p" + a).addAll(name(m, b)); break;
                    case 6:
                        for (int p = 0; p < 3; p++) {
                            if (row[3 + p] != -1) {
                                more |= name(a, p).addAll(new TreeSet<>(name(m, row[3 + p])));
                            }
                        }
                        if (row[6] != -1) {
                            more |= name(m, row[6]).addAll(of("r" + a));
                        }
                        break;
                    case 7: more |= of("r" + m).addAll(name(m, a)); break;
                    default:
                }
            }
            return more;
        }

        private void findLevels() {
            for (int s : madeIn.keySet()) {
                for (int p = 0; p < 4; p++) {
                    if (of("p" + p).contains(s)) {
                        levels.put(s, 0);
                    }
                }
                for (int[] row : steps) {
                    if ((row[1] == 8 || row[1] == 9) && name(row[0], row[2]).contains(s)) {
                        levels.put(s, 0);
                    }
                }
            }
            for (int level = 1; level < 20; level++) {
                for (int s : madeIn.keySet()) {
                    for (int holder : holders(s)) {
                        if (!levels.containsKey(s) && levels.getOrDefault(holder / 4, level) == level - 1) {
                            levels.put(s, level);
                        }
                    }
                }
            }
        }

        /** Pairs of a SITE and a FIELD, as SITE times 4 and FIELD. */
        List<Integer> holders(int site) {
            List<Integer> found = new ArrayList<>();
            for (int s : madeIn.keySet()) {
                for (int f = 0; f < 4; f++) {
                    if (of("f" + s + "." + f).contains(site)) {
                        found.add(s * 4 + f);
                    }
                }
            }
            return found;
        }

        Set<Integer> reach(Set<Integer> from) {
            Set<Integer> found = new TreeSet<>(from);
            for (int before = -1; before != found.size();) {
                before = found.size();
                for (int s : new TreeSet<>(found)) {
                    for (int f = 0; f < 4; f++) {
                        found.addAll(of("f" + s + "." + f));
                    }
                }
            }
            return found;
        }

        int all(int what) {
            Set<Integer> found = new TreeSet<>();
            switch (what) {
                case 3: return bits(live);
                case 4: return bits(madeIn.keySet());
                case 5: return bits(levels.keySet());
                case 11: return (int) steps.stream().filter(row -> row[1] == 10 && isIdle(row)).count();
                case 12: return levels.values().stream().mapToInt(l -> l).max().orElse(-1);
                case 9: case 10:
                    for (int m : live) {
                        if (what == 9 ? isPure(m) : isFresh(m)) {
                            found.add(m);
                        }
                    }
                    return bits(found);
                default:
                    for (int s : madeIn.keySet()) {
                        if (what == 6 ? isOut(s) : what == 7 ? isOwned(s) : isFixed(s)) {
                            found.add(s);
                        }
                    }
                    return bits(found);
            }
        }

        private boolean isOut(int s) {
            int m = madeIn.get(s);
            Set<Integer> from = new TreeSet<>(of("r" + m));
            for (int p = 0; p < 3; p++) {
                from.addAll(name(m, p));
            }
            for (int t : levels.keySet()) {
                if (madeIn.get(t) == m) {
                    from.add(t);
                }
            }
            return levels.containsKey(s) || reach(from).contains(s);
        }

        private boolean isOwned(int s) {
            for (int p = 0; p < 4; p++) {
                if (of("p" + p).contains(s)) {
                    return false;
                }
            }
            return holders(s).size() == 1;
        }

        private boolean isFixed(int s) {
            for (int[] row : steps) {
                if (row[1] == 3 && row[0] != madeIn.get(s) && name(row[0], row[2]).contains(s)) {
                    return false;
                }
            }
            return true;
        }

        private boolean isPure(int m) {
            Set<Integer> these = calledByAll(m);
            these.add(m);
            for (int[] row : steps) {
                if (!these.contains(row[0])) {
                    continue;
                }
                if (row[1] == 5 || row[1] == 8 || row[1] == 9) {
                    return false;
                }
                if (row[1] == 3) {
                    for (int s : name(row[0], row[2])) {
                        if (!these.contains(madeIn.get(s))) {
                            return false;
                        }
                    }
                }
            }
            return true;
        }

        private boolean isFresh(int m) {
            for (int s : of("r" + m)) {
                boolean given = name(m, 0).contains(s) || name(m, 1).contains(s) || name(m, 2).contains(s);
                if (madeIn.get(s) != m || levels.containsKey(s) || !holders(s).isEmpty() || given) {
                    return false;
                }
            }
            return !of("r" + m).isEmpty();
        }

        boolean isIdle(int[] row) {
            Set<Integer> locked = name(row[0], row[2]);
            return !locked.isEmpty() && locked.stream().noneMatch(levels::containsKey);
        }

        int ofSite(int site, int what) {
            Set<Integer> found = new TreeSet<>();
            if (what == 2) {
                return levels.getOrDefault(site, -1);
            }
            if (what == 3) {
                return holders(site).size();
            }
            if (what == 4) {
                holders(site).forEach(h -> found.add(h / 4));
            }
            if (what == 5) {
                points.forEach((key, set) -> {
                    if (key.startsWith("n") && set.contains(site)) {
                        found.add(key.charAt(1) - '0');
                    }
                });
            }
            if (what == 6) {
                for (int[] row : steps) {
                    if (row[1] == 3 && name(row[0], row[2]).contains(site)) {
                        found.add(row[0]);
                    }
                }
            }
            return bits(found);
        }

        int parameter(int m, int p, int what) {
            Set<String> marked = new HashSet<>();
            marked.add(m + "." + p);
            for (int before = 0; before != marked.size();) {
                before = marked.size();
                for (int[] row : steps) {
                    if (row[1] == 1 && marked.contains(row[0] + "." + row[3])) {
                        marked.add(row[0] + "." + row[2]);
                    }
                    for (int i = 0; row[1] == 6 && i < 3; i++) {
                        if (marked.contains(row[0] + "." + row[3 + i])) {
                            marked.add(row[2] + "." + i);
                        }
                    }
                    if (row[1] == 6 && row[6] != -1 && gives(row[2], marked)) {
                        marked.add(row[0] + "." + row[6]);
                    }
                }
            }
            return what == 2 ? marked.size() : (what == 1 ? gives(m, marked) : keeps(marked)) ? 1 : 0;
        }

        private boolean gives(int m, Set<String> marked) {
            return steps.stream().anyMatch(row -> row[0] == m && row[1] == 7 && marked.contains(m + "." + row[2]));
        }

        private boolean keeps(Set<String> marked) {
            for (int[] row : steps) {
                int kind = row[1];
                int kept = kind == 3 ? row[4] : kind == 5 ? row[3] : kind == 8 || kind == 9 ? row[2] : -1;
                if (marked.contains(row[0] + "." + kept)) {
                    return true;
                }
            }
            return false;
        }

        Set<Integer> called(int m) {
            Set<Integer> found = new TreeSet<>();
            steps.stream().filter(row -> row[1] == 6 && row[0] == m).forEach(row -> found.add(row[2]));
            return found;
        }

        Set<Integer> calledByAll(int m) {
            Set<Integer> found = called(m);
            for (int i = 0; i < 8; i++) {
                for (int k : new TreeSet<>(found)) {
                    found.addAll(called(k));
                }
            }
            return found;
        }

        Set<Integer> callers(int m) {
            Set<Integer> found = new TreeSet<>();
            for (int k = 0; k < methods; k++) {
                if (called(k).contains(m)) {
                    found.add(k);
                }
            }
            return found;
        }
    }
}
