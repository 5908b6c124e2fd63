import java.util.ArrayList;
import java.util.List;
import java.util.Random;
import java.util.Set;
import java.util.function.Supplier;

/** Holds the class against the model, in sessions of up to 512 calls that a seed makes. */
public final class ModelTest {
    private static final int SESSIONS = 1500;

    private final Random random;
    private final Patternforge x = new Patternforge();
    private final Model m = new Model();
    private final List<String> log = new ArrayList<>();
    private int calls = 0;
    private final int wild;
    private final int types;
    private final int numbers;
    static int large = 0, sizes = 0;
    static final java.util.Map<String, Integer> counts = new java.util.TreeMap<>();

    private ModelTest(long seed) {
        random = new Random(seed);
        wild = random.nextInt(3) == 0 ? 12 : 60;
        types = 1 + random.nextInt(4);
        numbers = random.nextInt(4);
    }

    public static void main(String[] args) {
        int from = args.length > 0 ? Integer.parseInt(args[0]) : 0;
        int to = args.length > 1 ? Integer.parseInt(args[1]) : SESSIONS;
        for (int seed = from; seed < to; seed++) {
            ModelTest test = new ModelTest(seed);
            String wrong = test.session();
            if (wrong != null) {
                for (String line : test.log) System.out.println("  " + line);
                System.out.println("ModelTest: seed " + seed + ": " + wrong);
                System.exit(1);
            }
        }
        if (args.length > 2) System.out.println(counts);
        if (args.length == 0) demandCame();
        System.out.println("ModelTest: " + (to - from) + " sessions as due; " + large + " of " + sizes + " sizes TOO_LARGE");
    }

    /** Sessions that come to nothing that is rare would agree whatever the class does there. */
    private static void demandCame() {
        for (String rare : List.of("guard ", "split ", "merge ", "example ", "isUsed ", "run(0 -2", "run(1 -2",
                "run(2 -2", "run(3 -2", "run(3 -1", "run throws.IllegalStateException")) {
            if (counts.getOrDefault(rare, 0) < 20) {
                System.out.println("ModelTest: too few sessions came to " + rare + ": " + counts);
                System.exit(1);
            }
        }
    }

    private int below(int n) { return random.nextInt(n); }

    private boolean one(int n) { return random.nextInt(n) == 0; }

    private String both(String call, Supplier<?> real, Supplier<?> model) {
        calls++;
        String want = Due.answerOf(model);
        String got = Due.answerOf(real);
        log.add(call + " -> " + want);
        if (call.startsWith("size")) {
            sizes++;
            if (want.equals("-3")) large++;
        }
        counts.merge(call.replaceAll("\\(.*", "") + " " + (want.startsWith("throws") ? want : ""), 1, Integer::sum);
        if (call.startsWith("run") && want.startsWith("-")) counts.merge(call.substring(0, 5) + " " + want, 1, Integer::sum);
        return got.equals(want) ? null : call + " answered " + got + ", due is " + want;
    }

    private String session() {
        String wrong = both("new", () -> 0, () -> 0);
        int setup = 20 + below(80);
        while (wrong == null && calls < 512) {
            wrong = calls < setup ? prepare() : calls == setup ? begin() : proceed();
        }
        return wrong;
    }

    private String prepare() {
        switch (below(12)) {
            case 0: case 1: case 2: return kinds();
            case 3: case 4: case 5: return value();
            case 6: return setView();
            default: return pattern();
        }
    }

    private String proceed() {
        int k = below(40);
        if (k < 7) return run();
        if (k < 13) return add();
        if (k < 16) return guard();
        if (k < 18) return split();
        if (k < 21) return merge();
        if (k < 25) return pattern();
        if (k < 27) return value();
        if (k < 28) return one(4) ? begin() : one(3) ? kinds() : setView();
        return ask();
    }

    /** A number, mostly from 0 to below many, now and then beside or far beyond. */
    private int some(int many) {
        if (one(wild)) return below(3) == 0 ? random.nextInt() : below(many + 14) - 7;
        return many <= 0 ? 0 : below(many);
    }

    private int kind() {
        if (one(wild)) return below(9) - 2;
        int k = below(types + numbers + 1);
        return k < types ? k : k < types + numbers ? 4 : 5;
    }

    private int none(int other) { return one(wild) ? some(5) : other; }

    private String kinds() {
        int t = some(types), n = one(wild) ? some(4) : Math.min(below(4), below(4));
        int a = n > 0 ? kind() : none(0), b = n > 1 ? kind() : none(0), c = n > 2 ? kind() : none(0);
        return both("constructor(" + t + ", " + n + ", " + a + ", " + b + ", " + c + ")",
                () -> x.constructor(t, n, a, b, c), () -> m.constructor(t, n, a, b, c));
    }

    private int valueOf(int kind) {
        for (int i = 0; i < 20 && !one(wild); i++) {
            int v = below(Math.max(1, m.values.size()));
            if (v < m.values.size() && Model.kind(m.values.get(v)) == kind) return v;
        }
        return some(m.values.size());
    }

    private int patternFor(int kind) {
        for (int i = 0; i < 20 && !one(wild); i++) {
            int p = below(Math.max(1, m.patterns.size()));
            if (p < m.patterns.size() && Model.fits(m.patterns.get(p), kind)) return p;
        }
        return some(m.patterns.size());
    }

    private String value() {
        int k = below(6);
        if (k == 0) {
            int n = some(10);
            return both("num(" + n + ")", () -> x.num(n), () -> m.num(n));
        }
        if (k == 1) {
            int n = some(4);
            int a = n > 0 ? some(10) : none(0), b = n > 1 ? some(10) : none(0), c = n > 2 ? some(10) : none(0);
            return both("seq(" + n + ", " + a + ", " + b + ", " + c + ")", () -> x.seq(n, a, b, c), () -> m.seq(n, a, b, c));
        }
        int t = some(types), n = constructorOf(t);
        int[] f = {none(-1), none(-1), none(-1)};
        List<Integer> fields = fieldsOf(t, n);
        for (int i = 0; i < fields.size(); i++) f[i] = valueOf(fields.get(i));
        return both("data(" + t + ", " + n + ", " + f[0] + ", " + f[1] + ", " + f[2] + ")",
                () -> x.data(t, n, f[0], f[1], f[2]), () -> m.data(t, n, f[0], f[1], f[2]));
    }

    private int constructorOf(int type) {
        return type < 0 || type > 3 ? 0 : some(m.types.get(type).size());
    }

    private List<Integer> fieldsOf(int type, int constructor) {
        boolean isThere = type >= 0 && type < 4 && constructor >= 0 && constructor < m.types.get(type).size();
        return isThere ? m.types.get(type).get(constructor) : List.of();
    }

    private String pattern() {
        int k = below(20);
        if (k == 0) return both("any()", () -> x.any(), () -> m.any());
        if (k < 4) {
            int v = some(6), p = one(2) ? patternFor(Model.NUMBER) : some(m.patterns.size());
            return both("name(" + v + ", " + p + ")", () -> x.name(v, p), () -> m.name(v, p));
        }
        if (k < 6) {
            int a = some(10), b = Math.max(a, some(10)), c = one(wild) ? some(10) : b;
            return both("range(" + a + ", " + c + ")", () -> x.range(a, c), () -> m.range(a, c));
        }
        if (k < 11) return make();
        if (k < 15) return either();
        if (k < 17) return view();
        return list();
    }

    private String make() {
        int t = some(types), n = constructorOf(t);
        int[] f = {none(-1), none(-1), none(-1)};
        List<Integer> fields = fieldsOf(t, n);
        for (int i = 0; i < fields.size(); i++) f[i] = patternFor(fields.get(i));
        return both("make(" + t + ", " + n + ", " + f[0] + ", " + f[1] + ", " + f[2] + ")",
                () -> x.make(t, n, f[0], f[1], f[2]), () -> m.make(t, n, f[0], f[1], f[2]));
    }

    private String either() {
        int p = some(m.patterns.size()), q = some(m.patterns.size());
        for (int i = 0; i < 15; i++) {
            boolean areThere = p >= 0 && q >= 0 && p < m.patterns.size() && q < m.patterns.size();
            if (!areThere || Model.mayBeEither(m.patterns.get(p), m.patterns.get(q))) break;
            p = some(m.patterns.size());
            q = some(m.patterns.size());
        }
        int first = p, second = q;
        return both("either(" + p + ", " + q + ")", () -> x.either(first, second), () -> m.either(first, second));
    }

    private String view() {
        int v = some(3), p = some(m.patterns.size());
        for (int i = 0; i < 15 && p >= 0 && p < m.patterns.size() && !Model.mayBeOfView(m.patterns.get(p)); i++) {
            p = some(m.patterns.size());
        }
        int in = p;
        return both("view(" + v + ", " + p + ")", () -> x.view(v, in), () -> m.view(v, in));
    }

    private String list() {
        int n = some(3), r = some(3);
        int a = n > 0 ? patternFor(4) : none(-1), b = n > 1 ? patternFor(4) : none(-1);
        return both("list(" + n + ", " + a + ", " + b + ", " + r + ")", () -> x.list(n, a, b, r), () -> m.list(n, a, b, r));
    }

    private String setView() {
        int v = some(3), a = some(19) - 9, b = some(19) - 9, c = some(19) - 9;
        int many = one(wild) ? some(12) : 1 + below(one(3) ? 10 : 3);
        return both("setView(" + v + ", " + a + ", " + b + ", " + c + ", " + many + ")",
                () -> x.setView(v, a, b, c, many), () -> m.setView(v, a, b, c, many));
    }

    /** A kind that a value has, if one is found: without one the match could not be run. */
    private int columnKind() {
        int kind = kind();
        for (int i = 0; i < 10 && !one(wild) && !hasValueOf(kind); i++) kind = kind();
        return kind;
    }

    private boolean hasValueOf(int kind) {
        for (Model.Value v : m.values) if (Model.kind(v) == kind) return true;
        return false;
    }

    private String begin() {
        int n = one(wild) ? some(5) : 1 + below(3);
        int a = columnKind(), b = n > 1 ? columnKind() : none(0), c = n > 2 ? columnKind() : none(0);
        return both("begin(" + n + ", " + a + ", " + b + ", " + c + ")", () -> x.begin(n, a, b, c), () -> m.begin(n, a, b, c));
    }

    private int[] columns(boolean ofPatterns) {
        int[] c = {none(-1), none(-1), none(-1)};
        for (int i = 0; i < m.width(); i++) c[i] = ofPatterns ? patternFor(m.columns.get(i)) : valueOf(m.columns.get(i));
        return c;
    }

    private String add() {
        int[] c = columns(true);
        if (!m.cases.isEmpty() && one(3)) c = m.cases.get(below(m.cases.size())).patterns.clone();
        if (m.width() > 1 && one(2)) c[below(m.width())] = patternFor(m.columns.get(0));
        int r = one(2) ? below(2) : some(100);
        if (!m.cases.isEmpty() && one(4)) {
            Model.Case last = m.cases.get(m.cases.size() - 1);
            c = last.patterns.clone();
            int column = below(m.width());
            c[column] = alternativeFor(c[column]);
            r = last.result;
        }
        return addAll(c, r);
    }

    /** A pattern that may stand beside another one in a pattern of alternatives. */
    private int alternativeFor(int pattern) {
        for (int i = 0; i < 30; i++) {
            int p = below(m.patterns.size());
            if (Model.mayBeEither(m.patterns.get(pattern), m.patterns.get(p))) return p;
        }
        return pattern;
    }

    private String addAll(int[] p, int r) {
        return both("add(" + p[0] + ", " + p[1] + ", " + p[2] + ", " + r + ")",
                () -> x.add(p[0], p[1], p[2], r), () -> m.add(p[0], p[1], p[2], r));
    }

    private String guard() {
        int n = some(m.cases.size()), g = one(4) ? -1 : one(3) ? 3 : some(4), v = g == -1 && !one(8) ? 0 : some(6), t = some(10);
        if (n >= 0 && n < m.cases.size() && g != -1 && !one(4)) {
            List<Integer> names = new ArrayList<>();
            boolean ofNumbers = !one(4);
            for (int name = 0; name < 6; name++) {
                Set<Integer> kinds = m.kindsOf(n, name);
                if (ofNumbers ? kinds.equals(Set.of(4)) : !kinds.isEmpty()) names.add(name);
            }
            if (!names.isEmpty()) v = names.get(below(names.size()));
        }
        int name = v, than = one(2) ? numberOfValue(t) : t;
        return both("guard(" + n + ", " + g + ", " + v + ", " + than + ")",
                () -> x.guard(n, g, name, than), () -> m.guard(n, g, name, than));
    }

    /** One of the latest numbers, so that some guard speaks of one that a run meets. */
    private int numberOfValue(int other) {
        for (int i = m.values.size() - 1 - below(3); i >= 0; i--) if (m.values.get(i) instanceof Model.Num n) return n.number();
        return other;
    }

    private String split() {
        int n = some(m.cases.size()), c = some(m.width());
        for (int i = 0; i < 20 && !one(wild) && !m.maySplit(n, c); i++) {
            n = some(m.cases.size());
            c = some(m.width());
        }
        return splitAt(n, c);
    }

    private String splitAt(int n, int c) {
        return both("split(" + n + ", " + c + ")", () -> x.split(n, c), () -> m.split(n, c));
    }

    private String merge() {
        int n = some(m.cases.size() - (one(wild) ? 0 : 1)), c = some(m.width());
        for (int i = 0; i < 20 && !one(wild) && !m.mayMerge(n, c); i++) {
            n = some(m.cases.size() - 1);
            c = some(m.width());
        }
        return mergeAt(n, c);
    }

    private String mergeAt(int n, int c) {
        return both("merge(" + n + ", " + c + ")", () -> x.merge(n, c), () -> m.merge(n, c));
    }

    /** Runs the match by all engines, and asks about each run. */
    private String run() {
        int[] v = columns(false);
        String wrong = null;
        int from = one(wild) ? some(4) : 0;
        for (int i = from; wrong == null && i < from + 4 && i >= from; i++) {
            int e = i;
            wrong = both("run(" + e + ", " + v[0] + ", " + v[1] + ", " + v[2] + ")",
                    () -> x.run(e, v[0], v[1], v[2]), () -> m.run(e, v[0], v[1], v[2]));
            if (wrong == null) wrong = both("tests()", () -> x.tests(), () -> m.tests());
            if (wrong == null) wrong = both("views()", () -> x.views(), () -> m.views());
            for (int j = -1; wrong == null && j <= m.views(); j++) {
                int index = j;
                wrong = both("viewAt(" + j + ")", () -> x.viewAt(index), () -> m.viewAt(index));
            }
            int name = some(6);
            if (wrong == null) wrong = both("bound(" + name + ")", () -> x.bound(name), () -> m.bound(name));
        }
        return wrong;
    }

    private String ask() {
        int n = some(m.cases.size()), e = one(wild) ? some(4) : 2 + below(2), v = some(6);
        int place = one(2) ? 1 + below(3) : one(2) ? 6 + below(13) : some(475);
        boolean isShared = one(2);
        switch (below(8)) {
            case 0: case 1: case 2:
                return both("size(" + e + ", " + isShared + ")", () -> x.size(e, isShared), () -> m.size(e, isShared));
            case 3: return both("missing()", () -> x.missing(), () -> m.missing());
            case 4: return both("example(" + place + ")", () -> x.example(place), () -> m.example(place));
            case 5: return both("isUsed(" + n + ")", () -> x.isUsed(n), () -> m.isUsed(n));
            case 6: return both("taken(" + n + ")", () -> x.taken(n), () -> m.taken(n));
            default: return both("bound(" + v + ")", () -> x.bound(v), () -> m.bound(v));
        }
    }
}
