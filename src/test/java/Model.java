import java.util.ArrayList;
import java.util.HashMap;
import java.util.List;
import java.util.Map;
import java.util.Set;
import java.util.TreeMap;
import java.util.TreeSet;

/**
 * The document once more, with the Java library and in another shape than the class (objects,
 * exceptions for what is asked, texts for what is the same), to be held against the class.
 */
final class Model {
    static final int NONE = -1, MISSED = -1, RAISED = -2, TOO_LARGE = -3, HOLE = -4, NUMBER = 4, SEQUENCE = 5;

    interface Pattern { }
    record Any() implements Pattern { }
    record Named(int name, Pattern in) implements Pattern { }
    record Range(int from, int to) implements Pattern { }
    record Make(int type, int constructor, List<Pattern> fields) implements Pattern { }
    record Either(Pattern first, Pattern second) implements Pattern { }
    record View(int view, Pattern in) implements Pattern { }
    record Lst(List<Pattern> items, int rest) implements Pattern { }

    interface Value { }
    record Num(int number) implements Value { }
    record Seq(List<Integer> numbers) implements Value { }
    record Data(int type, int constructor, List<Value> fields) implements Value { }

    static final class Case {
        int[] patterns;
        int result, guard = NONE, name, than, taken;
    }

    /** What the plain order comes to and does not know. */
    static final class Ask extends RuntimeException {
        final String what;
        final int place, which;
        Ask(String what, int place, int which) {
            super(null, null, false, false);
            this.what = what;
            this.place = place;
            this.which = which;
        }
    }

    static final class Large extends RuntimeException {
        Large() { super(null, null, false, false); }
    }

    static final class Node {
        String ask;
        int place, which;
        List<Node> behind = new ArrayList<>();
        Map<Integer, Integer> known;
    }

    final List<List<List<Integer>>> types = new ArrayList<>();
    final List<Value> values = new ArrayList<>();
    final List<Pattern> patterns = new ArrayList<>();
    final int[][] viewNumbers = {{1, 0, 0, 10}, {1, 0, 0, 10}, {1, 0, 0, 10}};
    List<Integer> columns = null;
    List<Case> cases = new ArrayList<>();
    int tests = 0;
    List<Integer> ran = new ArrayList<>();
    Map<Integer, Integer> bound = new HashMap<>();

    Model() {
        for (int i = 0; i < 4; i++) types.add(new ArrayList<>());
    }

    // ---- what the words of the Terms say of patterns and values

    static List<Pattern> inside(Pattern p) {
        if (p instanceof Named n) return List.of(n.in);
        if (p instanceof Make m) return m.fields;
        if (p instanceof Either e) return List.of(e.first, e.second);
        if (p instanceof View v) return List.of(v.in);
        if (p instanceof Lst l) return l.items;
        return List.of();
    }

    static int size(Pattern p) {
        int sum = 1;
        for (Pattern q : inside(p)) sum += size(q);
        return sum;
    }

    static int depth(Pattern p) {
        int most = 0;
        for (Pattern q : inside(p)) most = Math.max(most, depth(q));
        return p instanceof Named || p instanceof Either || p instanceof View ? most : most + 1;
    }

    static Set<Integer> names(Pattern p) {
        Set<Integer> all = new TreeSet<>();
        if (p instanceof Named n) all.add(n.name);
        for (Pattern q : inside(p)) all.addAll(names(q));
        return all;
    }

    static boolean hasView(Pattern p) {
        return p instanceof View || inside(p).stream().anyMatch(Model::hasView);
    }

    static boolean mayBeOfView(Pattern p) {
        if (p instanceof Named || p instanceof View || p instanceof Make || p instanceof Lst) return false;
        return inside(p).stream().allMatch(Model::mayBeOfView);
    }

    static int kind(Pattern p) {
        if (p instanceof Named n) return kind(n.in);
        if (p instanceof Range) return NUMBER;
        if (p instanceof Make m) return m.type;
        if (p instanceof Lst) return SEQUENCE;
        if (p instanceof Either e) return Math.max(kind(e.first), kind(e.second));
        return NONE;
    }

    static boolean fits(Pattern p, int kind) {
        return kind(p) == NONE || kind(p) == kind;
    }

    static int kind(Value v) {
        return v instanceof Num ? NUMBER : v instanceof Seq ? SEQUENCE : ((Data) v).type;
    }

    static int measure(Value v) {
        if (v instanceof Num n) return n.number;
        if (v instanceof Seq s) return (s.numbers.size() * 3 + s.numbers.stream().mapToInt(i -> i).sum()) % 97;
        Data d = (Data) v;
        int sum = 5 * d.constructor;
        for (int i = 0; i < d.fields.size(); i++) sum += (i + 1) * measure(d.fields.get(i));
        return sum % 97;
    }

    static int head(Value v) {
        return v instanceof Num n ? n.number : v instanceof Seq s ? s.numbers.size() : ((Data) v).constructor;
    }

    // ---- the exceptions

    static void index(boolean holds) { if (!holds) throw new IndexOutOfBoundsException(); }
    static void argument(boolean holds) { if (!holds) throw new IllegalArgumentException(); }
    static void state(boolean holds) { if (!holds) throw new IllegalStateException(); }

    static boolean in(int n, int from, int to) { return n >= from && n <= to; }

    Pattern pattern(int number) {
        index(in(number, 0, patterns.size() - 1));
        return patterns.get(number);
    }

    Value value(int number) {
        index(in(number, 0, values.size() - 1));
        return values.get(number);
    }

    int keep(Pattern p) {
        state(patterns.size() < 60);
        patterns.add(p);
        return patterns.size() - 1;
    }

    int keep(Value v) {
        state(values.size() < 40);
        values.add(v);
        return values.size() - 1;
    }

    static int[] row(int... all) { return all; }

    // ---- types and values

    int constructor(int type, int fields, int first, int second, int third) {
        index(in(type, 0, 3));
        argument(in(fields, 0, 3));
        int[] given = row(first, second, third);
        List<Integer> kinds = new ArrayList<>();
        for (int i = 0; i < 3; i++) {
            if (i < fields) {
                argument(in(given[i], 0, 5));
                kinds.add(given[i]);
            } else {
                argument(given[i] == 0);
            }
        }
        state(types.get(type).size() < 4);
        types.get(type).add(kinds);
        return types.get(type).size() - 1;
    }

    int num(int number) {
        argument(in(number, 0, 9));
        return keep(new Num(number));
    }

    int seq(int length, int first, int second, int third) {
        argument(in(length, 0, 3));
        int[] given = row(first, second, third);
        List<Integer> numbers = new ArrayList<>();
        for (int i = 0; i < 3; i++) {
            argument(i < length ? in(given[i], 0, 9) : given[i] == 0);
            if (i < length) numbers.add(given[i]);
        }
        return keep(new Seq(numbers));
    }

    List<Integer> fieldsOf(int type, int constructor) {
        index(in(type, 0, 3));
        index(in(constructor, 0, types.get(type).size() - 1));
        return types.get(type).get(constructor);
    }

    int data(int type, int constructor, int first, int second, int third) {
        List<Integer> kinds = fieldsOf(type, constructor);
        int[] given = row(first, second, third);
        List<Value> fields = new ArrayList<>();
        for (int i = 0; i < kinds.size(); i++) fields.add(value(given[i]));
        for (int i = 0; i < 3; i++) {
            argument(i < kinds.size() ? kind(fields.get(i)) == kinds.get(i) : given[i] == NONE);
        }
        return keep(new Data(type, constructor, fields));
    }

    // ---- patterns

    int any() { return keep(new Any()); }

    int name(int name, int pattern) {
        index(in(name, 0, 5));
        Pattern p = pattern(pattern);
        argument(!names(p).contains(name));
        argument(size(p) < 40);
        return keep(new Named(name, p));
    }

    int range(int from, int to) {
        argument(in(from, 0, 9));
        argument(in(to, from, 9));
        return keep(new Range(from, to));
    }

    static void apart(List<Pattern> all) {
        int many = 0;
        Set<Integer> union = new TreeSet<>();
        for (Pattern p : all) {
            many += names(p).size();
            union.addAll(names(p));
        }
        argument(many == union.size());
    }

    int make(int type, int constructor, int first, int second, int third) {
        List<Integer> kinds = fieldsOf(type, constructor);
        int[] given = row(first, second, third);
        List<Pattern> fields = new ArrayList<>();
        for (int i = 0; i < kinds.size(); i++) fields.add(pattern(given[i]));
        for (int i = 0; i < 3; i++) {
            argument(i < kinds.size() ? fits(fields.get(i), kinds.get(i)) : given[i] == NONE);
        }
        Pattern p = new Make(type, constructor, fields);
        apart(fields);
        argument(depth(p) <= 4 && size(p) <= 40);
        return keep(p);
    }

    static boolean mayBeEither(Pattern p, Pattern q) {
        boolean alike = kind(p) == kind(q) || kind(p) == NONE || kind(q) == NONE;
        return alike && names(p).equals(names(q)) && size(new Either(p, q)) <= 40;
    }

    int either(int first, int second) {
        Pattern p = pattern(first), q = pattern(second);
        argument(mayBeEither(p, q));
        return keep(new Either(p, q));
    }

    int view(int view, int pattern) {
        index(in(view, 0, 2));
        Pattern p = pattern(pattern);
        argument(mayBeOfView(p) && size(p) < 40);
        return keep(new View(view, p));
    }

    int list(int many, int first, int second, int rest) {
        int[] given = row(first, second);
        List<Pattern> items = new ArrayList<>();
        if (in(many, 0, 2)) for (int i = 0; i < many; i++) items.add(pattern(given[i]));
        index(in(rest, 0, 2));
        argument(in(many, 0, 2));
        for (int i = 0; i < 2; i++) argument(i < many ? fits(items.get(i), NUMBER) : given[i] == NONE);
        apart(items);
        Pattern p = new Lst(items, rest);
        argument(depth(p) <= 4 && size(p) <= 40);
        return keep(p);
    }

    int setView(int view, int a, int b, int c, int m) {
        index(in(view, 0, 2));
        argument(in(a, -9, 9) && in(b, -9, 9) && in(c, -9, 9) && in(m, 1, 10));
        int before = viewNumbers[view][3];
        viewNumbers[view] = row(a, b, c, m);
        return before;
    }

    // ---- the match

    int begin(int many, int first, int second, int third) {
        argument(in(many, 1, 3));
        int[] given = row(first, second, third);
        List<Integer> kinds = new ArrayList<>();
        for (int i = 0; i < 3; i++) {
            argument(i < many ? in(given[i], 0, 5) : given[i] == 0);
            if (i < many) kinds.add(given[i]);
        }
        int before = cases.size();
        columns = kinds;
        cases = new ArrayList<>();
        tests = 0;
        ran = new ArrayList<>();
        bound = new HashMap<>();
        return before;
    }

    int width() { return columns == null ? 0 : columns.size(); }

    int add(int first, int second, int third, int result) {
        int[] given = row(first, second, third);
        List<Pattern> all = new ArrayList<>();
        for (int i = 0; i < width(); i++) all.add(pattern(given[i]));
        for (int i = 0; i < 3; i++) argument(i < width() ? fits(all.get(i), columns.get(i)) : given[i] == NONE);
        apart(all);
        argument(in(result, 0, 99));
        state(columns != null);
        state(cases.size() < 8);
        Case c = new Case();
        c.patterns = given;
        c.result = result;
        cases.add(c);
        return cases.size() - 1;
    }

    void kindsOf(Pattern p, int kind, int name, Set<Integer> found) {
        if (p instanceof Named n && n.name == name) found.add(kind);
        List<Pattern> in = inside(p);
        for (int i = 0; i < in.size(); i++) {
            int inner = p instanceof Make m ? types.get(m.type).get(m.constructor).get(i) : p instanceof Lst ? NUMBER : kind;
            kindsOf(in.get(i), inner, name, found);
        }
    }

    /** The kinds of all that a case may bind a name to. */
    Set<Integer> kindsOf(int number, int name) {
        Set<Integer> found = new TreeSet<>();
        for (int i = 0; i < width(); i++) kindsOf(pattern(caseAt(number).patterns[i]), columns.get(i), name, found);
        return found;
    }

    Case caseAt(int number) {
        index(in(number, 0, cases.size() - 1));
        return cases.get(number);
    }

    int guard(int number, int guard, int name, int than) {
        Case c = caseAt(number);
        index(in(guard, -1, 3));
        index(in(name, 0, 5));
        if (guard == NONE) {
            argument(name == 0);
        } else {
            argument(kindsOf(number, name).equals(Set.of(NUMBER)));
        }
        argument(in(than, 0, 9));
        int before = c.guard;
        c.guard = guard;
        c.name = name;
        c.than = than;
        return before;
    }

    static Case caseLike(Case c, int column, int pattern) {
        Case d = new Case();
        d.patterns = c.patterns.clone();
        d.patterns[column] = pattern;
        d.result = c.result;
        return d;
    }

    int split(int number, int column) {
        Case c = caseAt(number);
        index(in(column, 0, width() - 1));
        state(maySplit(number, column));
        Either e = (Either) patterns.get(c.patterns[column]);
        cases.set(number, caseLike(c, column, identity(e.first)));
        cases.add(number + 1, caseLike(c, column, identity(e.second)));
        return cases.size();
    }

    boolean maySplit(int number, int column) {
        if (!in(number, 0, cases.size() - 1) || !in(column, 0, width() - 1)) return false;
        Pattern p = patterns.get(cases.get(number).patterns[column]);
        return cases.get(number).guard == NONE && p instanceof Either && !hasView(p) && cases.size() < 8;
    }

    /** The number of this very pattern. */
    int identity(Pattern p) {
        for (int i = 0; i < patterns.size(); i++) if (patterns.get(i) == p) return i;
        throw new AssertionError();
    }

    int merge(int number, int column) {
        Case c = caseAt(number);
        Case d = caseAt(number + 1);
        index(in(column, 0, width() - 1));
        state(mayMerge(number, column));
        int both = keep(new Either(patterns.get(c.patterns[column]), patterns.get(d.patterns[column])));
        cases.set(number, caseLike(c, column, both));
        cases.remove(number + 1);
        return cases.size();
    }

    /** Whether a case and the next one could be one, were there room for a pattern. */
    boolean mayMerge(int number, int column) {
        if (!in(number, 0, cases.size() - 2) || !in(column, 0, width() - 1)) return false;
        Case c = cases.get(number), d = cases.get(number + 1);
        boolean areAlike = c.guard == NONE && d.guard == NONE && c.result == d.result;
        for (int i = 0; i < 3; i++) areAlike = areAlike && (i == column || c.patterns[i] == d.patterns[i]);
        Pattern p = patterns.get(c.patterns[column]), q = patterns.get(d.patterns[column]);
        return areAlike && !hasView(p) && !hasView(q) && mayBeEither(p, q);
    }

    // ---- runs

    /** Tells what stands at a place: for a run from the values, for a node from what is known. */
    interface Facts {
        int head(int place, int kind);
        int given(int view, int place);
        void test();
        void bind(int name, int place);
    }

    static boolean holds(Pattern p, int number, Facts f) {
        if (p instanceof Any) return true;
        if (p instanceof Either e) return holds(e.first, number, f) || holds(e.second, number, f);
        f.test();
        return in(number, ((Range) p).from, ((Range) p).to);
    }

    static boolean match(Pattern p, int place, Facts f) {
        if (p instanceof Any) return true;
        if (p instanceof Named n) {
            f.bind(n.name, place);
            return match(n.in, place, f);
        }
        if (p instanceof Either e) return match(e.first, place, f) || match(e.second, place, f);
        if (p instanceof View v) return holds(v.in, f.given(v.view, place), f);
        int head = f.head(place, kind(p));
        f.test();
        if (p instanceof Range r) return in(head, r.from, r.to);
        if (!isRight(p, head)) return false;
        List<Pattern> in = inside(p);
        for (int i = 0; i < in.size(); i++) if (!match(in.get(i), inner(p, place, head, i), f)) return false;
        return true;
    }

    static boolean isRight(Pattern p, int head) {
        if (p instanceof Make m) return head == m.constructor;
        Lst l = (Lst) p;
        return l.rest == 0 ? head == l.items.size() : head >= l.items.size();
    }

    static int inner(Pattern p, int place, int head, int i) {
        int index = p instanceof Lst l && l.rest == 2 ? head - l.items.size() + i : i;
        return 5 * place + index + 1;
    }

    Value valueAt(int place, int[] told) {
        if (place <= 3) return values.get(told[place - 1]);
        Value v = valueAt((place - 1) / 5, told);
        int index = (place - 1) % 5;
        return v instanceof Seq s ? new Num(s.numbers.get(index)) : ((Data) v).fields.get(index);
    }

    final class RealFacts implements Facts {
        final int[] told;
        int count = 0;
        final List<Integer> log = new ArrayList<>();
        final Map<Integer, Integer> gave = new HashMap<>();
        Map<Integer, Integer> binds = new HashMap<>();

        RealFacts(int[] told) { this.told = told; }
        public int head(int place, int kind) { return Model.head(valueAt(place, told)); }
        public int given(int view, int place) {
            int key = 1000 * view + place;
            if (!gave.containsKey(key)) {
                int[] n = viewNumbers[view];
                int sum = n[0] * measure(valueAt(place, told)) + n[1] * log.size() + n[2];
                int number = ((sum % n[3]) + n[3]) % n[3];
                gave.put(key, number);
                log.add(100000 * view + 10 * place + number);
            }
            return gave.get(key);
        }
        public void test() { count++; }
        public void bind(int name, int place) { binds.put(name, place); }
    }

    static String outcome(Case c, int number) {
        switch (c.guard) {
            case 0: return number < c.than ? "held" : "failed";
            case 1: return number == c.than ? "held" : "failed";
            case 2: return number > c.than ? "held" : "failed";
            case 3: return number == c.than ? "raised" : "held";
            default: return "held";
        }
    }

    int run(int engine, int first, int second, int third) {
        index(in(engine, 0, 3));
        int[] told = row(first, second, third);
        for (int i = 0; i < width(); i++) value(told[i]);
        for (int i = 0; i < 3; i++) argument(i < width() ? kind(values.get(told[i])) == columns.get(i) : told[i] == NONE);
        state(columns != null);
        Node root = engine < 2 ? null : tree(engine);
        state(engine < 2 || root != null);
        RealFacts f = new RealFacts(told);
        int result = engine < 2 ? plain(f) : walk(root, f);
        tests = f.count;
        ran = f.log;
        bound = f.binds;
        return result;
    }

    int plain(RealFacts f) {
        for (Case c : cases) {
            f.binds = new HashMap<>();
            boolean all = true;
            for (int i = 0; all && i < width(); i++) all = match(patterns.get(c.patterns[i]), i + 1, f);
            if (!all) continue;
            String out = c.guard == NONE ? "held" : outcome(c, f.head(f.binds.get(c.name), NUMBER));
            if (out.equals("raised")) return RAISED;
            if (out.equals("held")) {
                c.taken++;
                return c.result;
            }
        }
        f.binds = new HashMap<>();
        return MISSED;
    }

    /** The way of a tree, and behind it the plain order once more for what it binds. */
    int walk(Node root, RealFacts f) {
        Node node = root;
        int count = 0;
        while (!node.ask.startsWith("leaf")) {
            if (node.ask.equals("guard")) {
                Case c = cases.get(node.place);
                RealFacts g = new RealFacts(f.told);
                g.gave.putAll(f.gave);
                for (int i = 0; i < width(); i++) match(patterns.get(c.patterns[i]), i + 1, g);
                node = node.behind.get(outcome(c, g.head(g.binds.get(c.name), NUMBER)).equals("held") ? 0 : 1);
            } else {
                count++;
                node = node.behind.get(node.ask.equals("view") ? f.given(node.which, node.place) : f.head(node.place, 0));
            }
        }
        f.binds = new HashMap<>();
        f.count = count;
        if (node.ask.equals("leaf missed")) return MISSED;
        Case c = cases.get(node.place);
        RealFacts g = new RealFacts(f.told);
        g.gave.putAll(f.gave);
        for (int i = 0; i < width(); i++) match(patterns.get(c.patterns[i]), i + 1, g);
        f.binds = g.binds;
        if (node.ask.equals("leaf raised")) return RAISED;
        c.taken++;
        return c.result;
    }

    int tests() { return tests; }
    int views() { return ran.size(); }

    int viewAt(int i) {
        index(in(i, 0, ran.size() - 1));
        return ran.get(i);
    }

    int bound(int name) {
        index(in(name, 0, 5));
        return bound.getOrDefault(name, NONE);
    }

    int taken(int number) { return caseAt(number).taken; }

    // ---- trees

    static final class Facts2 implements Facts {
        final Map<Integer, Integer> heads, gave;
        Facts2(Map<Integer, Integer> heads, Map<Integer, Integer> gave) {
            this.heads = heads;
            this.gave = gave;
        }
        public int head(int place, int kind) {
            if (!heads.containsKey(place)) throw new Ask("head", place, kind);
            return heads.get(place);
        }
        public int given(int view, int place) {
            if (!gave.containsKey(1000 * view + place)) throw new Ask("view", place, view);
            return gave.get(1000 * view + place);
        }
        public void test() { }
        public void bind(int name, int place) { }
    }

    static <K, V> Map<K, V> with(Map<K, V> map, K key, V value) {
        Map<K, V> more = new HashMap<>(map);
        more.put(key, value);
        return more;
    }

    Node tree(int engine) {
        try {
            return node(engine, new HashMap<>(), new HashMap<>(), Set.of(), new int[1]);
        } catch (Large e) {
            return null;
        }
    }

    Node leaf(String ask, int place, Map<Integer, Integer> heads, int[] count) {
        if (++count[0] > 500) throw new Large();
        Node n = new Node();
        n.ask = ask;
        n.place = place;
        n.known = heads;
        return n;
    }

    boolean matchesCase(int i, Facts2 f) {
        for (int j = 0; j < width(); j++) if (!match(patterns.get(cases.get(i).patterns[j]), j + 1, f)) return false;
        return true;
    }

    Node node(int engine, Map<Integer, Integer> heads, Map<Integer, Integer> gave, Set<Integer> failed, int[] count) {
        Facts2 f = new Facts2(heads, gave);
        Ask ask = null;
        for (int i = 0; i < cases.size() && ask == null; i++) {
            if (failed.contains(i)) continue;
            try {
                if (!matchesCase(i, f)) continue;
            } catch (Ask a) {
                ask = a;
                break;
            }
            Case c = cases.get(i);
            if (c.guard == NONE) return leaf("leaf", i, heads, count);
            Node n = leaf("guard", i, heads, count);
            n.behind.add(leaf("leaf", i, heads, count));
            if (c.guard == 3) {
                n.behind.add(leaf("leaf raised", i, heads, count));
            } else {
                Set<Integer> more = new TreeSet<>(failed);
                more.add(i);
                n.behind.add(node(engine, heads, gave, more, count));
            }
            return n;
        }
        if (ask == null) return leaf("leaf missed", 0, heads, count);
        if (ask.what.equals("view")) {
            Node n = leaf("view", ask.place, heads, count);
            n.which = ask.which;
            for (int i = 0; i < viewNumbers[ask.which][3]; i++) {
                n.behind.add(node(engine, heads, with(gave, 1000 * ask.which + ask.place, i), failed, count));
            }
            return n;
        }
        int place = ask.place, kind = ask.which;
        if (engine == 3) {
            TreeMap<Integer, Integer> counts = new TreeMap<>();
            Map<Integer, Integer> kinds = new HashMap<>();
            for (int i = 0; i < cases.size(); i++) {
                boolean alive = !failed.contains(i);
                try {
                    alive = alive && matchesCase(i, f);
                } catch (Ask a) {
                    alive = true;
                }
                if (!alive) continue;
                Set<Integer> places = new TreeSet<>();
                for (int j = 0; j < width(); j++) needs(patterns.get(cases.get(i).patterns[j]), j + 1, heads, places, kinds);
                for (int p : places) counts.merge(p, 1, Integer::sum);
            }
            place = NONE;
            for (int p : counts.keySet()) if (place == NONE || counts.get(p) > counts.get(place)) place = p;
            kind = kinds.get(place);
        }
        Node n = leaf("head", place, heads, count);
        n.which = kind;
        int many = kind == NUMBER ? 10 : kind == SEQUENCE ? 4 : types.get(kind).size();
        for (int i = 0; i < many; i++) n.behind.add(node(engine, with(heads, place, i), gave, failed, count));
        return n;
    }

    static void needs(Pattern p, int place, Map<Integer, Integer> heads, Set<Integer> places, Map<Integer, Integer> kinds) {
        if (p instanceof Any || p instanceof View) return;
        if (p instanceof Named || p instanceof Either) {
            for (Pattern q : inside(p)) needs(q, place, heads, places, kinds);
            return;
        }
        Integer head = heads.get(place);
        if (head == null) {
            places.add(place);
            kinds.put(place, kind(p));
        } else if (!(p instanceof Range) && isRight(p, head)) {
            for (int i = 0; i < inside(p).size(); i++) needs(inside(p).get(i), inner(p, place, head, i), heads, places, kinds);
        }
    }

    static int nodes(Node n) {
        int sum = 1;
        for (Node m : n.behind) sum += nodes(m);
        return sum;
    }

    /** The number that stands for a node, of those the same as it. */
    static int shared(Node n, Map<String, Integer> all) {
        List<Integer> behind = new ArrayList<>();
        for (Node m : n.behind) behind.add(shared(m, all));
        if (n.ask.equals("head") && !behind.isEmpty() && behind.stream().distinct().count() == 1) return behind.get(0);
        String key = n.ask + " " + n.place + " " + n.which + " " + behind;
        if (!all.containsKey(key)) all.put(key, all.size());
        return all.get(key);
    }

    static List<Node> leaves(Node n, String ask) {
        List<Node> found = new ArrayList<>();
        if (n.ask.equals(ask)) found.add(n);
        for (Node m : n.behind) found.addAll(leaves(m, ask));
        return found;
    }

    int size(int engine, boolean isShared) {
        index(in(engine, 2, 3));
        state(columns != null);
        Node root = tree(engine);
        if (root == null) return TOO_LARGE;
        Map<String, Integer> all = new HashMap<>();
        shared(root, all);
        return isShared ? all.size() : nodes(root);
    }

    int missing() {
        state(columns != null);
        Node root = tree(2);
        return root == null ? TOO_LARGE : leaves(root, "leaf missed").size();
    }

    int example(int place) {
        state(columns != null);
        Node root = tree(2);
        state(root != null);
        List<Node> found = leaves(root, "leaf missed");
        state(!found.isEmpty());
        return found.get(0).known.getOrDefault(place, HOLE);
    }

    boolean isUsed(int number) {
        caseAt(number);
        Node root = tree(2);
        state(root != null);
        return leaves(root, "leaf").stream().anyMatch(n -> n.place == number);
    }
}
