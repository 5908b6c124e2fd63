import java.util.function.Consumer;
import java.util.function.Function;
import java.util.function.Supplier;

/**
 * States of an object to refuse calls in, and all that an object in such a state tells. What is told
 * after a refused call has to be what an object tells that was never asked for it.
 */
final class Standing {
    static final int NONE = Patternforge.NONE;
    static final int NUMBER = Patternforge.NUMBER;
    static final int SEQUENCE = Patternforge.SEQUENCE;

    // The values: two numbers, two sequences, and of types. Type 0 has nil and cons (a number, type 0),
    // type 1 a constructor with fields of each sort, type 2 four without fields, type 3 none.
    static final int THREE = 0, EIGHT = 1, EMPTY_SEQ = 2, TWO_SEQ = 3, NIL = 4, CONS = 5, MIXED = 6, VALUES = 7;

    // The patterns. Those NAMED bind the name 0, OTHER_NAMED the name 1, and SIZE_40 the name 2.
    static final int ANY = 0, SMALL = 1, BIG = 2, BIG_NAMED = 3, SMALL_NAMED = 4, EITHER = 5;
    static final int VIEW_0 = 6, VIEW_1 = 7, VIEW_2 = 8, NO_LIST = 9, SMALL_LIST = 10;
    static final int MAKE_NIL = 11, MAKE_SMALL = 12, MAKE_BIG = 13, MAKE_EITHER = 14;
    static final int DEPTH_2 = 15, DEPTH_3 = 16, DEPTH_4 = 17, OTHER_NAMED = 18;
    static final int SIZE_3 = 19, SIZE_7 = 20, SIZE_15 = 21, SIZE_31 = 22, SIZE_19 = 23, SIZE_39 = 24, SIZE_40 = 25;
    static final int PATTERNS = 26;

    /** Nothing was told yet. */
    static final Standing NEW = new Standing("a new object", x -> { }, new int[0][]);

    /** Types, values, patterns and views, but no match. */
    static final Standing BARE = new Standing("an object without a match", Standing::furnish, new int[][] {{THREE, CONS}});

    /** A match with five cases, the first one with a guard, and a run. */
    static final Standing RICH = new Standing("an object with a match", Standing::rich,
            new int[][] {{THREE, CONS}, {EIGHT, NIL}, {EIGHT, CONS}});

    /** A match without cases. */
    static final Standing EMPTY = new Standing("a match without cases", x -> {
        furnish(x);
        x.begin(3, NUMBER, SEQUENCE, 1);
    }, new int[][] {{THREE, TWO_SEQ, MIXED}});

    /** No constructor of type 2, no value, no pattern and no case finds room any more. */
    static final Standing FULL = new Standing("a full object", Standing::full,
            new int[][] {{THREE, CONS}, {EIGHT, NIL}});

    /** Both trees are TOO_LARGE. */
    static final Standing LARGE = new Standing("an object with large trees", x -> {
        furnish(x);
        x.begin(3, NUMBER, NUMBER, NUMBER);
        x.add(SMALL, SMALL, VIEW_0, 4);
        x.add(SMALL, BIG, SMALL_NAMED, 5);
        x.add(BIG, BIG, VIEW_1, 6);
        x.guard(1, Patternforge.LESS, 0, 9);
        x.run(0, THREE, EIGHT, THREE);
    }, new int[][] {{THREE, THREE, EIGHT}, {EIGHT, EIGHT, THREE}});

    /** Every value is matched. */
    static final Standing WHOLE = new Standing("an object where nothing is missing", x -> {
        furnish(x);
        x.begin(2, 0, NUMBER, 0);
        x.add(MAKE_SMALL, VIEW_0, NONE, 0);
        x.add(OTHER_NAMED, ANY, NONE, 99);
        x.run(1, CONS, THREE, NONE);
    }, new int[][] {{NIL, THREE}, {CONS, EIGHT}});

    final String name;
    private final Consumer<Patternforge> script;
    private final int[][] rows;
    private String untouched = null;

    private Standing(String name, Consumer<Patternforge> script, int[][] rows) {
        this.name = name;
        this.script = script;
        this.rows = rows;
    }

    Patternforge make() {
        Patternforge x = new Patternforge();
        script.accept(x);
        return x;
    }

    /** That a call throws what is due, and leaves all that is told as it was. */
    void refuses(Due due, int want, String call, Function<Patternforge, ?> refused) {
        Patternforge x = make();
        due.fails(want, call + " of " + name, () -> refused.apply(x));
        if (untouched == null) untouched = tell(make());
        String told = tell(x);
        due.holds(call + " changes nothing of " + name + ": " + told + " for " + untouched, told.equals(untouched));
    }

    private static void furnish(Patternforge x) {
        x.constructor(0, 0, 0, 0, 0);
        x.constructor(0, 2, NUMBER, 0, 0);
        x.constructor(1, 3, NUMBER, SEQUENCE, 0);
        for (int i = 0; i < 4; i++) x.constructor(2, 0, 0, 0, 0);
        x.num(3);
        x.num(8);
        x.seq(0, 0, 0, 0);
        x.seq(2, 3, 8, 0);
        x.data(0, 0, NONE, NONE, NONE);
        x.data(0, 1, THREE, NIL, NONE);
        x.data(1, 0, EIGHT, TWO_SEQ, CONS);
        x.any();
        x.range(0, 4);
        x.range(5, 8);
        x.name(0, BIG);
        x.name(0, SMALL);
        x.either(SMALL, BIG);
        x.view(0, ANY);
        x.view(1, BIG);
        x.view(2, ANY);
        x.list(0, NONE, NONE, Patternforge.NO_REST);
        x.list(1, SMALL, NONE, Patternforge.AT_END);
        x.make(0, 0, NONE, NONE, NONE);
        x.make(0, 1, SMALL_NAMED, ANY, NONE);
        x.make(0, 1, BIG_NAMED, ANY, NONE);
        x.either(MAKE_SMALL, MAKE_BIG);
        x.make(0, 1, ANY, MAKE_NIL, NONE);
        x.make(0, 1, ANY, DEPTH_2, NONE);
        x.make(0, 1, ANY, DEPTH_3, NONE);
        x.name(1, ANY);
        x.either(ANY, ANY);
        x.either(SIZE_3, SIZE_3);
        x.either(SIZE_7, SIZE_7);
        x.either(SIZE_15, SIZE_15);
        x.either(SIZE_3, SIZE_15);
        x.either(SIZE_19, SIZE_19);
        x.name(2, SIZE_39);
        x.setView(0, 2, 1, 3, 7);
        x.setView(1, -1, 0, 2, 5);
        x.setView(2, 1, 1, 1, 3);
    }

    private static void rich(Patternforge x) {
        furnish(x);
        x.begin(2, NUMBER, 0, 0);
        x.add(SMALL_NAMED, VIEW_2, NONE, 7);
        x.add(EITHER, MAKE_EITHER, NONE, 8);
        x.add(VIEW_1, OTHER_NAMED, NONE, 8);
        x.add(SMALL, MAKE_NIL, NONE, 9);
        x.add(BIG, MAKE_NIL, NONE, 9);
        x.guard(0, Patternforge.MORE, 0, 3);
        x.run(Patternforge.FIRST, THREE, CONS, NONE);
    }

    private static void full(Patternforge x) {
        rich(x);
        for (int i = 0; i < 3; i++) x.add(EITHER, MAKE_NIL, NONE, 9);
        for (int i = VALUES; i < 40; i++) x.num(i % 10);
        for (int i = PATTERNS; i < 60; i++) x.any();
    }

    /** All that an object tells; the calls that change something come last. */
    private String tell(Patternforge x) {
        StringBuilder text = new StringBuilder();
        tellRun(text, x);
        for (int i = 0; i <= 8; i++) {
            int n = i;
            put(text, () -> x.taken(n));
            put(text, () -> x.isUsed(n));
        }
        for (int engine = 2; engine <= 3; engine++) {
            int e = engine;
            put(text, () -> x.size(e, false));
            put(text, () -> x.size(e, true));
        }
        put(text, () -> x.missing());
        for (int place : new int[] {1, 2, 3, 6, 7, 8, 11, 12, 13}) put(text, () -> x.example(place));
        tellRuns(text, x);
        for (int i = 0; i <= 8; i++) {
            int n = i;
            put(text, () -> x.taken(n));
            put(text, () -> x.guard(n, NONE, 0, 0));
        }
        tellViews(text, x, VIEW_0, VIEW_2, VIEW_1);
        tellViews(text, x, VIEW_2, VIEW_0, VIEW_1);
        put(text, () -> x.num(0));
        put(text, () -> x.any());
        for (int i = 0; i < 4; i++) {
            int n = i;
            put(text, () -> x.constructor(n, 0, 0, 0, 0));
            put(text, () -> x.setView(n, 1, 0, 0, 10));
        }
        return text.toString();
    }

    private void tellRuns(StringBuilder text, Patternforge x) {
        for (int[] row : rows) {
            for (int engine = 0; engine < 4; engine++) {
                int e = engine;
                put(text, () -> x.run(e, row[0], row.length > 1 ? row[1] : NONE, row.length > 2 ? row[2] : NONE));
                tellRun(text, x);
            }
        }
    }

    /** What each view gives, the last one of a case by a pattern that may not match. */
    private void tellViews(StringBuilder text, Patternforge x, int first, int second, int third) {
        put(text, () -> x.begin(3, NUMBER, NUMBER, NUMBER));
        put(text, () -> x.add(first, second, third, 1));
        put(text, () -> x.run(0, THREE, THREE, THREE));
        tellRun(text, x);
    }

    private static void tellRun(StringBuilder text, Patternforge x) {
        put(text, () -> x.tests());
        put(text, () -> x.views());
        for (int i = 0; i <= x.views(); i++) {
            int index = i;
            put(text, () -> x.viewAt(index));
        }
        for (int i = 0; i < 6; i++) {
            int name = i;
            put(text, () -> x.bound(name));
        }
    }

    private static void put(StringBuilder text, Supplier<?> call) {
        text.append(Due.answerOf(call).replaceAll("throws\\.I(.)[a-z]*(.)\\w*", "$1$2")).append(' ');
    }
}
