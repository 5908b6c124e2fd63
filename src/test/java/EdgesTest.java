/**
 * The edges that promises 1 to 18, and the terms above them, name, on the side where a call answers;
 * the other side is in RefusedTest. What a sentence of the document says stands ahead of its test.
 */
public final class EdgesTest {
    private static final int NONE = Patternforge.NONE;
    private static final int NUMBER = Patternforge.NUMBER;
    private static final int SEQUENCE = Patternforge.SEQUENCE;
    private static final int NO_REST = Patternforge.NO_REST, AT_END = Patternforge.AT_END, AT_BEGIN = Patternforge.AT_BEGIN;

    private static final Due due = new Due("EdgesTest");

    public static void main(String[] args) {
        objectsApart();
        typesWithoutConstructors();
        kindsOfFields();
        constructorsLater();
        fortyValues();
        fortiethSequence();
        fortiethData();
        numbersOfSequences();
        measuresAroundTheRemainder();
        deepValues();
        sixtiethSizes();
        sixtiethOfEachSort();
        sixNames();
        namesKeepKinds();
        everyRange();
        depths();
        depthsWithin();
        sizesCountRepeats();
        kindsOfAlternatives();
        viewsFitAnyKind();
        listsInFields();
        viewNumbers();
        viewsOfOneNumber();
        setViewWithoutRoom();
        setViewBetweenRuns();
        beginKeepsTheRest();
        eightCases();
        results();
        patternsOfColumns();
        everyGuard();
        guardsOnEachWay();
        guardInPlaceOfAnother();
        splitUpToEight();
        splitWithoutRoomForPatterns();
        splitMovesWhatIsBehind();
        splitByNumbers();
        mergeUpToSixty();
        mergeUpToASizeOfForty();
        mergeOfKinds();
        mergeMovesWhatIsBehind();
        due.end();
    }

    /** Runs all engines; the trees too, since they are small here. */
    private static void runs(Patternforge x, String call, int want, int first, int second, int third) {
        runs(x, call, want, 4, new int[] {first, second, third});
    }

    /** Runs the first ones of the engines: two where trees would be TOO_LARGE. */
    private static void runs(Patternforge x, String call, int want, int engines, int[] told) {
        for (int engine = 0; engine < engines; engine++) {
            int e = engine;
            due.is(call + " by " + e, () -> x.run(e, told[0], told[1], told[2]), want);
        }
    }

    // ---- promise 1

    /** Creates a compiler with types without constructors, without patterns, values and a match. */
    private static void objectsApart() {
        Patternforge full = Standing.FULL.make();
        Patternforge x = new Patternforge();
        due.is("P1 no values of another object", () -> x.num(0), 0);
        due.is("P1 no patterns of another object", () -> x.any(), 0);
        due.is("P1 no tests of another object", () -> x.tests(), 0);
        due.is("P1 no views of another object", () -> x.views(), 0);
        for (int i = 0; i < 6; i++) {
            int name = i;
            due.is("P1 no names of another object", () -> x.bound(name), NONE);
        }
        for (int i = 0; i < 4; i++) {
            int type = i;
            due.fails(Due.INDEX, "P1 no constructors, data", () -> x.data(type, 0, NONE, NONE, NONE));
            due.fails(Due.INDEX, "P1 no constructors, make", () -> x.make(type, 0, NONE, NONE, NONE));
            due.is("P2 the first one of type " + i, () -> x.constructor(type, 0, 0, 0, 0), 0);
        }
        due.is("P14 no match of another object", () -> x.begin(1, 0, 0, 0), 0);
        due.is("P26 no cases of another object", () -> x.missing(), 1);
        due.is("P24 the other object stands", () -> full.taken(1), 1);
    }

    /** A type without constructors has no values; what asks nothing of it can be told of it. */
    private static void typesWithoutConstructors() {
        Patternforge x = new Patternforge();
        int any = x.any();
        due.is("P14 columns of types without constructors", () -> x.begin(3, 1, 2, 3), 0);
        due.is("P15 any of these", () -> x.add(any, any, any, 5), 0);
        due.is("P25 a leaf", () -> x.size(2, false), 1);
        due.is("P28 it is used", () -> x.isUsed(0), true);
        due.is("P2 a field of a type without constructors", () -> x.constructor(0, 1, 3, 0, 0), 0);
        int one = x.make(0, 0, any, NONE, NONE);
        due.is("P9 a pattern of that", () -> one, any + 1);
        due.fails(Due.INDEX, "P5 no value of that", () -> x.data(0, 0, 0, NONE, NONE));
        x.begin(1, 0, 0, 0);
        x.add(one, NONE, NONE, 6);
        due.is("P25 a constructor and a leaf", () -> x.size(2, false), 2);
        due.is("P2 the type of the field later", () -> x.constructor(3, 0, 0, 0, 0), 0);
        int inner = x.data(3, 0, NONE, NONE, NONE), value = x.data(0, 0, inner, NONE, NONE);
        runs(x, "P19 a value later", 6, value, NONE, NONE);
    }

    // ---- promises 2 to 5

    /** A type has constructors up to 4, each with 0 to 3 fields, each of a kind. */
    private static void kindsOfFields() {
        for (int type = 0; type < 4; type++) {
            for (int fields = 1; fields <= 3; fields++) {
                for (int turn = 0; turn < 6; turn++) fieldsOf(type, fields, turn);
            }
        }
    }

    /** The last constructor of a type, with fields of kinds that follow one another. */
    private static void fieldsOf(int type, int fields, int turn) {
        Patternforge x = new Patternforge();
        int[] kind = new int[3], value = new int[6], pattern = new int[6];
        for (int i = 0; i < fields; i++) kind[i] = (turn + i) % 6;
        for (int t = 0; t < 4; t++) x.constructor(t, 0, 0, 0, 0);
        x.constructor(type, 0, 0, 0, 0);
        x.constructor(type, 1, type, 0, 0);
        String what = "type " + type + " with " + fields + " fields from kind " + turn;
        due.is("P2 " + what, () -> x.constructor(type, fields, kind[0], kind[1], kind[2]), 3);
        for (int k = 0; k < 6; k++) {
            value[k] = k < 4 ? x.data(k, 0, NONE, NONE, NONE) : k == NUMBER ? x.num(4) : x.seq(1, 4, 0, 0);
            pattern[k] = k < 4 ? x.make(k, 0, NONE, NONE, NONE) : k == NUMBER ? x.range(4, 4) : x.list(0, NONE, NONE, AT_END);
        }
        int[] v = {NONE, NONE, NONE}, p = {NONE, NONE, NONE};
        for (int i = 0; i < fields; i++) {
            v[i] = value[kind[i]];
            p[i] = pattern[kind[i]];
        }
        for (int i = 0; i < fields; i++) {
            for (int k = 0; k < 6; k++) {
                if (k == kind[i]) continue;
                int[] w = v.clone(), q = p.clone();
                w[i] = value[k];
                q[i] = pattern[k];
                due.fails(Due.ARGUMENT, "P5 " + what + ", kind " + k, () -> x.data(type, 3, w[0], w[1], w[2]));
                due.fails(Due.ARGUMENT, "P9 " + what + ", kind " + k, () -> x.make(type, 3, q[0], q[1], q[2]));
            }
        }
        int made = x.data(type, 3, v[0], v[1], v[2]), looked = x.make(type, 3, p[0], p[1], p[2]);
        due.is("P5 " + what, () -> made, 6);
        x.begin(1, type, 0, 0);
        x.add(looked, NONE, NONE, 7);
        runs(x, "P19 " + what, 7, made, NONE, NONE);
    }

    /** Values, patterns, the match and the latest run stay when a constructor comes; trees get wider. */
    private static void constructorsLater() {
        Patternforge x = Standing.RICH.make();
        int nodes = x.size(2, false), tests = x.tests(), missing = x.missing();
        due.is("P2 the third one", () -> x.constructor(0, 0, 0, 0, 0), 2);
        due.is("P20 the latest run is told of", () -> x.tests(), tests);
        due.is("P22 its view", () -> x.viewAt(0), 200020);
        due.is("P23 its name", () -> x.bound(0), 11);
        due.is("P24 what was taken", () -> x.taken(1), 1);
        due.holds("P25 more nodes", x.size(2, false) == Patternforge.TOO_LARGE || x.size(2, false) > nodes);
        due.holds("P26 more is missing", x.missing() == Patternforge.TOO_LARGE || x.missing() > missing);
        due.is("P19 the same result", () -> x.run(0, Standing.THREE, Standing.CONS, NONE), 8);
        due.is("P2 the fourth one", () -> x.constructor(0, 3, 0, 1, 2), 3);
        due.fails(Due.STATE, "P2 the type has 4", () -> x.constructor(0, 0, 0, 0, 0));
        due.is("P2 another type has not", () -> x.constructor(3, 0, 0, 0, 0), 0);
    }

    /** Values are numbered from 0, up to 40: those that num, seq and data make by turns. */
    private static void fortyValues() {
        Patternforge x = new Patternforge();
        x.constructor(0, 1, NUMBER, 0, 0);
        for (int i = 0; i < 40; i++) {
            int n = i;
            if (i % 3 == 0) due.is("P3 value " + i, () -> x.num(n % 10), n);
            if (i % 3 == 1) due.is("P4 value " + i, () -> x.seq(3, 1, 2, n % 10), n);
            if (i % 3 == 2) due.is("P5 value " + i, () -> x.data(0, 0, n - 2, NONE, NONE), n);
        }
        due.fails(Due.STATE, "P3 there are 40", () -> x.num(0));
        due.fails(Due.STATE, "P4 there are 40", () -> x.seq(0, 0, 0, 0));
        due.fails(Due.STATE, "P5 there are 40", () -> x.data(0, 0, 0, NONE, NONE));
        due.is("P6 patterns find room", () -> x.any(), 0);
        x.begin(3, NUMBER, SEQUENCE, 0);
        x.add(x.range(9, 9), x.list(1, x.range(7, 7), NONE, AT_BEGIN), x.make(0, 0, x.range(6, 6), NONE, NONE), 3);
        runs(x, "P19 the last ones of each", 3, 39, 37, 38);
        runs(x, "P19 others of each", -1, 36, 34, 35);
    }

    /** The 40th value is a sequence: its numbers are those that were told. */
    private static void fortiethSequence() {
        Patternforge x = new Patternforge();
        for (int i = 0; i < 39; i++) x.seq(3, 0, 0, 0);
        due.is("P4 the 40th value", () -> x.seq(3, 9, 0, 9), 39);
        int nine = x.range(9, 9), zero = x.range(0, 0), any = x.any(), seen = x.view(0, any);
        x.begin(2, SEQUENCE, SEQUENCE, 0);
        x.add(x.list(2, nine, zero, AT_END), x.list(2, x.view(2, zero), x.view(1, nine), AT_BEGIN), NONE, 1);
        x.add(seen, any, NONE, 2);
        runs(x, "P4 the 40th value twice", 1, 2, new int[] {39, 39, NONE});
        due.is("P22 its second number", () -> x.viewAt(0), 200000 + 120);
        due.is("P22 its third number", () -> x.viewAt(1), 100000 + 130 + 9);
        runs(x, "P4 the 39th value", 2, 2, new int[] {38, 39, NONE});
        due.is("P4 the measure of the 39th", () -> x.viewAt(0), 10 + 9);
        due.is("P4 the 40th ahead", () -> x.run(0, 39, 38, NONE), 2);
        due.is("P4 the measure of the 40th", () -> x.viewAt(x.views() - 1), 10 + (9 + 18) % 10);
    }

    /** The 40th value is of a type: its fields are the values that were told, up to the 39th one. */
    private static void fortiethData() {
        Patternforge x = new Patternforge();
        x.constructor(3, 0, 0, 0, 0);
        for (int i = 0; i < 3; i++) x.constructor(3, 3, NUMBER, SEQUENCE, 3);
        x.num(7);
        x.seq(2, 8, 9, 0);
        x.data(3, 0, NONE, NONE, NONE);
        for (int i = 3; i < 39; i++) x.data(3, 1 + i % 3, 0, 1, i - 1);
        due.is("P5 the 40th value", () -> x.data(3, 3, 0, 1, 38), 39);
        int any = x.any(), list = x.list(2, x.range(8, 8), x.range(9, 9), NO_REST);
        int inner = x.make(3, 3, any, x.name(5, list), any);
        int outer = x.make(3, 3, x.name(4, x.range(7, 7)), list, x.name(3, inner));
        x.begin(1, 3, 0, 0);
        x.add(outer, NONE, NONE, 9);
        runs(x, "P5 its fields", 9, 39, NONE, NONE);
        due.is("P23 the first field", () -> x.bound(4), 6);
        due.is("P23 the third field", () -> x.bound(3), 8);
        due.is("P23 the second field of that", () -> x.bound(5), 42);
        runs(x, "P5 the 39th has another one", -1, 37, NONE, NONE);
    }

    /** A sequence of 0 to 3 numbers, each 0 to 9, at the places with the index from 0. */
    private static void numbersOfSequences() {
        for (int digit = 0; digit < 10; digit++) {
            int a = digit, b = (digit + 3) % 10, c = (digit + 7) % 10;
            Patternforge x = new Patternforge();
            int any = x.any(), zero = x.view(0, any), one = x.view(1, any);
            x.begin(2, SEQUENCE, SEQUENCE, 0);
            x.add(x.list(2, zero, one, AT_END), x.list(1, zero, NONE, AT_BEGIN), NONE, 1);
            int value = x.seq(3, a, b, c), short1 = x.seq(1, a, 0, 0), short2 = x.seq(2, b, c, 0);
            for (int engine = 0; engine < 2; engine++) {
                int e = engine;
                due.is("P4 three numbers by " + e, () -> x.run(e, value, value, NONE), 1);
                due.is("P22 the first one", () -> x.viewAt(0), 60 + a);
                due.is("P22 the second one", () -> x.viewAt(1), 100070 + b);
                due.is("P22 the third one", () -> x.viewAt(2), 130 + c);
                due.is("P4 one number by " + e, () -> x.run(e, value, short1, NONE), 1);
                due.is("P22 the only one", () -> x.viewAt(2), 110 + a);
                due.is("P4 two numbers by " + e, () -> x.run(e, short2, short2, NONE), 1);
                due.is("P22 the first of two", () -> x.viewAt(0), 60 + b);
                due.is("P22 the last of two", () -> x.viewAt(2), 120 + c);
            }
        }
    }

    /** Of all these the remainder by 97: sums of 96, 97, 98, 193 and 194. */
    private static void measuresAroundTheRemainder() {
        // The number, and the sums of both sequences with their lengths times 3: 5 + n + 2 s + 3 t.
        int[][] all = {{1, 15, 20, 96}, {0, 16, 20, 97}, {1, 16, 20, 98}, {8, 36, 36, 193}, {9, 36, 36, 194}, {0, 0, 0, 5}};
        for (int[] row : all) {
            Patternforge x = measurer();
            x.constructor(0, 0, 0, 0, 0);
            x.constructor(0, 3, NUMBER, SEQUENCE, SEQUENCE);
            x.constructor(1, 1, 0, 0, 0);
            x.constructor(1, 3, 0, 0, 0);
            int value = x.data(0, 1, x.num(row[0]), measuring(x, row[1]), measuring(x, row[2]));
            int inner = row[3] % 97;
            measured(x, "a sum of " + row[3], 0, value, inner);
            measured(x, "one of a sum of " + row[3], 1, x.data(1, 0, value, NONE, NONE), inner);
            measured(x, "three of a sum of " + row[3], 1, x.data(1, 1, value, value, value), (5 + 6 * inner) % 97);
        }
        Patternforge x = measurer();
        for (int i = 0; i < 10; i++) measured(x, "the number " + i, NUMBER, x.num(i), i);
        for (int i : new int[] {0, 15, 16, 20, 36}) measured(x, "a sequence", SEQUENCE, measuring(x, i), i);
        for (int i = 0; i < 4; i++) x.constructor(2, 0, 0, 0, 0);
        for (int i = 0; i < 4; i++) measured(x, "constructor " + i, 2, x.data(2, i, NONE, NONE, NONE), 5 * i);
    }

    /** A sequence of a measure from 0 to 36, but for those that need a length of 1. */
    private static int measuring(Patternforge x, int measure) {
        int length = measure == 0 ? 0 : measure > 24 ? 3 : 2;
        int left = measure - 3 * length, a = Math.min(9, left), b = Math.min(9, left - a);
        return x.seq(length, a, b, left - a - b);
    }

    /** Remainders by 10, 9 and 7 tell of each measure below 97. */
    private static final int[] BY = {10, 9, 7};

    private static Patternforge measurer() {
        Patternforge x = new Patternforge();
        for (int i = 0; i < 3; i++) x.setView(i, 1, 0, 0, BY[i]);
        int any = x.any();
        for (int i = 0; i < 3; i++) x.view(i, any);
        return x;
    }

    private static void measured(Patternforge x, String what, int kind, int value, int measure) {
        x.begin(3, kind, kind, kind);
        x.add(1, 2, 3, 1);
        x.run(0, value, value, value);
        for (int i = 0; i < 3; i++) {
            int view = i;
            due.is("P5 the measure of " + what, () -> x.viewAt(view), 100000 * view + 10 * (view + 1) + measure % BY[view]);
        }
    }

    /** A value in a value, as deep as there are values; each one is looked at by its own fields. */
    private static void deepValues() {
        Patternforge x = new Patternforge();
        x.constructor(0, 0, 0, 0, 0);
        x.constructor(0, 1, 0, 0, 0);
        x.data(0, 0, NONE, NONE, NONE);
        for (int i = 1; i < 40; i++) {
            int ahead = i - 1;
            due.is("P5 value " + i + " in one another", () -> x.data(0, 1, ahead, NONE, NONE), i);
        }
        int any = x.any(), nil = x.make(0, 0, NONE, NONE, NONE);
        int three = x.make(0, 1, x.make(0, 1, x.make(0, 1, x.name(1, any), NONE, NONE), NONE, NONE), NONE, NONE);
        int two = x.make(0, 1, x.make(0, 1, nil, NONE, NONE), NONE, NONE);
        x.begin(1, 0, 0, 0);
        x.add(two, NONE, NONE, 2);
        x.add(three, NONE, NONE, 3);
        x.add(x.view(0, any), NONE, NONE, 4);
        int[] want = {4, 4, 2, 3, 3};
        for (int i = 0; i < 5; i++) runs(x, "P19 value " + i + " in one another", want[i], i, NONE, NONE);
        runs(x, "P19 the deepest value", 3, 39, NONE, NONE);
        due.is("P23 three constructors in", () -> x.bound(1), 156);
        x.begin(1, 0, 0, 0);
        x.add(x.view(0, any), NONE, NONE, 4);
        x.run(0, 39, NONE, NONE);
        due.is("P5 its measure is 39 times 5, less 2 times 97", () -> x.viewAt(0), 11);
    }

    // ---- promises 6 to 13

    private static void fill(Patternforge x, int many) {
        while (x.any() < many - 1) continue;
    }

    /** Patterns are numbered from 0, up to 60; what the 60th one is, is told by what is refused of it. */
    private static void sixtiethSizes() {
        for (int sort = 0; sort < 8; sort++) {
            Patternforge x = Standing.BARE.make();
            int seen = x.either(Standing.VIEW_2, Standing.ANY);
            fill(x, 59);
            int s = sort;
            int[] made = {-1};
            due.is("P6 to P12 the 60th one, " + sort, () -> made[0] = sixtieth(x, s, seen), 59);
            due.fails(Due.STATE, "P6 there are 60", () -> x.any());
            if (sort == 0) due.fails(Due.ARGUMENT, "P7 its size is 40", () -> x.name(5, 59));
            if (sort == 1) due.fails(Due.ARGUMENT, "P9 its depth is 4", () -> x.make(0, 1, Standing.ANY, 59, NONE));
            if (sort == 2) due.fails(Due.ARGUMENT, "P7 it binds its name", () -> x.name(4, 59));
            if (sort == 3) due.fails(Due.ARGUMENT, "P10 it has a kind", () -> x.either(59, Standing.NO_LIST));
            if (sort == 4) due.fails(Due.ARGUMENT, "P11 it is a view", () -> x.view(0, 59));
            if (sort == 5) due.fails(Due.ARGUMENT, "P10 it has the kind of one", () -> x.either(59, Standing.SMALL));
            if (sort == 6) due.fails(Due.ARGUMENT, "P11 it has a view in it", () -> x.view(0, 59));
            if (sort == 7) due.fails(Due.STATE, "P11 it may be in a view, but for there are 60", () -> x.view(0, 59));
            if (sort < 6) continue;
            x.begin(1, NUMBER, 0, 0);
            x.add(59, NONE, NONE, 1);
            if (sort == 6) due.fails(Due.STATE, "P17 the 60th one has a view in it", () -> x.split(0, 0));
            if (sort == 7) due.is("P17 the 60th one", () -> x.split(0, 0), 2);
        }
    }

    private static int sixtieth(Patternforge x, int sort, int seen) {
        switch (sort) {
            case 0: return x.name(0, Standing.SIZE_39);
            case 1: return x.make(0, 1, Standing.ANY, Standing.DEPTH_3, NONE);
            case 2: return x.name(4, Standing.ANY);
            case 3: return x.range(9, 9);
            case 4: return x.view(2, Standing.SMALL);
            case 5: return x.list(1, Standing.ANY, NONE, AT_BEGIN);
            case 6: return x.either(Standing.SMALL, seen);
            default: return x.either(Standing.SMALL, Standing.BIG);
        }
    }

    /** The 60th pattern of each sort matches what it is for, and nothing else. */
    private static void sixtiethOfEachSort() {
        for (int sort = 0; sort < 9; sort++) {
            Patternforge x = new Patternforge();
            x.constructor(3, 3, NUMBER, SEQUENCE, NUMBER);
            int any = x.any(), one = x.range(1, 1), nine = x.range(9, 9), named = x.name(5, nine);
            int list = x.list(0, NONE, NONE, NO_REST);
            fill(x, 59);
            int kind = sort < 5 ? NUMBER : sort == 8 ? 3 : SEQUENCE;
            int made = last(x, sort, new int[] {any, one, nine, named, list});
            due.is("P6 to P12 the 60th one, " + sort, () -> made, 59);
            int nothing = x.seq(0, 0, 0, 0), number = x.num(9), less = x.num(8);
            int right = kind == NUMBER ? number : kind == 3 ? x.data(3, 0, less, nothing, number)
                    : x.seq(sort == 5 ? 2 : 3, sort == 7 ? 8 : 1, sort == 7 ? 1 : 9, sort == 5 ? 0 : sort == 6 ? 8 : 9);
            int wrong = kind == NUMBER ? less : kind == 3 ? x.data(3, 0, number, nothing, less)
                    : x.seq(sort == 5 ? 2 : 3, 9, 1, sort == 5 ? 0 : 8);
            x.begin(1, kind, 0, 0);
            x.add(59, NONE, NONE, 4);
            runs(x, "P19 the 60th pattern, " + sort, 4, right, NONE, NONE);
            int[] place = {NONE, 1, NONE, NONE, NONE, 7, 7, 8, 8};
            int p = place[sort];
            due.is("P23 a name in the 60th pattern, " + sort, () -> x.bound(5), p);
            runs(x, "P19 not the 60th pattern, " + sort, sort == 0 ? 4 : -1, wrong, NONE, NONE);
        }
    }

    /** The parts are any, 1, 9, 9 with the name 5, and a list without numbers. */
    private static int last(Patternforge x, int sort, int[] parts) {
        switch (sort) {
            case 0: return x.any();
            case 1: return x.name(5, parts[2]);
            case 2: return x.range(9, 9);
            case 3: return x.either(parts[1], parts[2]);
            case 4: return x.view(2, parts[2]);
            case 5: return x.list(2, parts[1], parts[3], NO_REST);
            case 6: return x.list(2, parts[1], parts[3], AT_END);
            case 7: return x.list(2, parts[1], parts[3], AT_BEGIN);
            default: return x.make(3, 0, parts[0], parts[4], parts[3]);
        }
    }

    /** A name is 0 to 5: all six of them in one pattern, at one place and at six. */
    private static void sixNames() {
        Patternforge x = new Patternforge();
        x.constructor(0, 3, NUMBER, NUMBER, NUMBER);
        int any = x.any(), all = any;
        for (int i = 0; i < 6; i++) {
            all = x.name(i, all);
        }
        int six = all;
        for (int i = 0; i < 6; i++) {
            int name = i;
            due.fails(Due.ARGUMENT, "P7 it binds name " + i, () -> x.name(name, six));
        }
        int number = x.num(5), value = x.data(0, 0, number, number, number);
        x.begin(1, NUMBER, 0, 0);
        x.add(six, NONE, NONE, 1);
        bindings(x, "one place", new int[] {1, 1, 1, 1, 1, 1}, number, NONE, NONE);
        int[] p = new int[6];
        for (int i = 0; i < 6; i++) p[i] = x.name(5 - i, any);
        x.begin(3, NUMBER, 0, 0);
        x.add(any, x.make(0, 0, p[0], p[1], p[2]), x.make(0, 0, p[3], p[4], p[5]), 1);
        bindings(x, "six places", new int[] {18, 17, 16, 13, 12, 11}, number, value, value);
        x.begin(2, 0, NUMBER, 0);
        x.add(x.make(0, 0, p[0], p[5], any), p[2], NONE, 1);
        bindings(x, "three of six", new int[] {7, NONE, NONE, 2, NONE, 6}, value, number, NONE);
    }

    private static void bindings(Patternforge x, String what, int[] places, int first, int second, int third) {
        for (int engine = 0; engine < 4; engine++) {
            int e = engine;
            due.is("P19 " + what + " by " + e, () -> x.run(e, first, second, third), 1);
            for (int i = 0; i < 6; i++) {
                int name = i;
                due.is("P23 " + what + ", name " + i + " by " + e, () -> x.bound(name), places[name]);
            }
        }
    }

    /** A pattern of each kind, and any as the one without; of a constructor that has no fields. */
    private static int patternOf(Patternforge x, int kind) {
        if (kind == NONE) return x.any();
        if (kind == NUMBER) return x.range(2, 7);
        return kind == SEQUENCE ? x.list(0, NONE, NONE, AT_END) : x.make(kind, 0, NONE, NONE, NONE);
    }

    private static Patternforge withTypes() {
        Patternforge x = new Patternforge();
        for (int i = 0; i < 4; i++) x.constructor(i, 0, 0, 0, 0);
        return x;
    }

    /** That a pattern fits columns of a kind alone, or of any (NONE). */
    private static void fitsAlone(Patternforge x, String what, int pattern, int kind) {
        for (int k = 0; k < 6; k++) {
            x.begin(1, k, 0, 0);
            if (kind == NONE || kind == k) {
                due.is(what + " fits kind " + k, () -> x.add(pattern, NONE, NONE, 0), 0);
            } else {
                due.fails(Due.ARGUMENT, what + " does not fit kind " + k, () -> x.add(pattern, NONE, NONE, 0));
            }
        }
    }

    /** A name has the kind of its pattern. */
    private static void namesKeepKinds() {
        for (int kind = NONE; kind < 6; kind++) {
            Patternforge x = withTypes();
            int named = x.name(1, x.name(0, patternOf(x, kind)));
            fitsAlone(x, "P7 a name of kind " + kind, named, kind);
        }
    }

    /** A range is from 0 to 9, to from to 9: each of them holds its numbers alone. */
    private static void everyRange() {
        for (int from = 0; from < 10; from++) {
            for (int to = from; to < 10; to++) {
                Patternforge x = new Patternforge();
                int range = x.range(from, to);
                due.is("P8 range " + from + " to " + to, () -> range, 0);
                x.begin(1, NUMBER, 0, 0);
                x.add(range, NONE, NONE, 1);
                x.add(x.view(0, range), NONE, NONE, 2);
                for (int i = 0; i < 10; i++) {
                    int value = x.num(i);
                    runs(x, "P8 " + from + " to " + to + " of " + i, from <= i && i <= to ? 1 : -1, value, NONE, NONE);
                }
            }
        }
    }

    /** The depth is at most 4, whichever field is the deepest one. */
    private static void depths() {
        for (int deep = 0; deep < 3; deep++) {
            for (int last = 0; last < 3; last++) {
                Patternforge x = new Patternforge();
                x.constructor(0, 0, 0, 0, 0);
                x.constructor(0, 3, 0, 0, 0);
                int any = x.any(), pattern = x.make(0, 0, NONE, NONE, NONE);
                for (int depth = 2; depth <= 4; depth++) {
                    int inner = pattern, field = (deep + depth / 4) % 3;
                    due.is("P9 a depth of " + depth, () -> within(x, inner, field, any), depth);
                    pattern = depth;
                }
                int four = pattern, three = pattern - 1, l = last;
                due.fails(Due.ARGUMENT, "P9 a depth of 5 by field " + last, () -> within(x, four, l, any));
                int named = x.name(0, four), both = x.either(any, four), other = x.either(four, any);
                for (int p : new int[] {named, both, other}) {
                    due.fails(Due.ARGUMENT, "P9 a depth of 5 by what adds none", () -> within(x, p, l, any));
                }
                due.is("P9 a depth of 4 by a name", () -> within(x, x.name(1, three), l, any), other + 2);
                due.is("P9 a depth of 4 by alternatives", () -> within(x, x.either(any, three), l, any), other + 4);
            }
        }
    }

    private static int within(Patternforge x, int pattern, int field, int any) {
        return x.make(0, 1, field == 0 ? pattern : any, field == 1 ? pattern : any, field == 2 ? pattern : any);
    }

    /** 1 without any: a list without patterns has depth 1, with a pattern 2; a view has that of its pattern. */
    private static void depthsWithin() {
        Patternforge x = new Patternforge();
        x.constructor(0, 1, SEQUENCE, 0, 0);
        x.constructor(1, 1, 0, 0, 0);
        x.constructor(2, 1, 1, 0, 0);
        x.constructor(3, 1, 2, 0, 0);
        int any = x.any();
        int[] lists = {x.list(0, NONE, NONE, NO_REST), x.list(0, NONE, NONE, AT_BEGIN), x.list(1, any, NONE, AT_END),
            x.list(2, x.view(0, x.range(0, 0)), x.name(3, any), AT_BEGIN), any, x.view(1, any)};
        int[] depth = {1, 1, 2, 2, 1, 1};
        for (int i = 0; i < lists.length; i++) {
            int list = lists[i], one = x.make(0, 0, list, NONE, NONE), two = x.make(1, 0, one, NONE, NONE);
            if (depth[i] == 1) {
                due.is("P9 list " + i + " in three", () -> x.make(2, 0, two, NONE, NONE), two + 1);
                due.fails(Due.ARGUMENT, "P9 list " + i + " in four", () -> x.make(3, 0, two + 1, NONE, NONE));
            } else {
                due.fails(Due.ARGUMENT, "P9 list " + i + " in three", () -> x.make(2, 0, two, NONE, NONE));
            }
        }
    }

    /** The sizes of all patterns that it is made of directly, each as often as it is there. */
    private static void sizesCountRepeats() {
        Patternforge x = new Patternforge();
        x.constructor(0, 3, NUMBER, NUMBER, NUMBER);
        int any = x.any(), three = x.either(any, any), five = x.either(three, any), seven = x.either(five, any);
        int thirteen = x.either(five, seven), named = x.name(0, thirteen);
        due.is("P9 1 and 3 times 13", () -> x.make(0, 0, thirteen, thirteen, thirteen), named + 1);
        due.fails(Due.ARGUMENT, "P9 1, 2 times 13, and 14", () -> x.make(0, 0, thirteen, thirteen, named));
        due.fails(Due.ARGUMENT, "P9 14 as the first one", () -> x.make(0, 0, named, thirteen, thirteen));
        due.fails(Due.ARGUMENT, "P9 14 as the second one", () -> x.make(0, 0, thirteen, named, thirteen));
        due.fails(Due.ARGUMENT, "P7 1 and 40", () -> x.name(1, named + 1));
        int nineteen = x.either(thirteen, five), thirtynine = x.either(nineteen, nineteen);
        due.is("P10 1 and 2 times 19", () -> thirtynine, named + 3);
        due.fails(Due.ARGUMENT, "P10 1, 39 and 1", () -> x.either(thirtynine, any));
        due.is("P11 1 and 39", () -> x.view(0, thirtynine), named + 4);
        due.is("P12 1 and 39", () -> x.list(1, thirtynine, NONE, NO_REST), named + 5);
        due.is("P12 1, 19 and 19", () -> x.list(2, nineteen, nineteen, NO_REST), named + 6);
        int twenty = x.name(1, nineteen);
        due.is("P12 1, 19 and 20", () -> x.list(2, nineteen, twenty, NO_REST), twenty + 1);
        int other = x.name(2, nineteen);
        due.fails(Due.ARGUMENT, "P12 1, 20 and 20", () -> x.list(2, other, twenty, NO_REST));
        due.is("P10 nothing was made by that", () -> x.any(), other + 1);
    }

    /** Alternatives have the kind of both, or that of the one that has one. */
    private static void kindsOfAlternatives() {
        for (int one = NONE; one < 6; one++) {
            for (int two = NONE; two < 6; two++) {
                Patternforge x = withTypes();
                int first = patternOf(x, one), second = patternOf(x, two);
                if (one != two && one != NONE && two != NONE) {
                    due.fails(Due.ARGUMENT, "P10 kinds " + one + " and " + two, () -> x.either(first, second));
                    due.is("P10 nothing was made", () -> x.any(), 2);
                    continue;
                }
                int both = x.either(first, second);
                due.is("P10 kinds " + one + " and " + two, () -> both, 2);
                fitsAlone(x, "P10 kinds " + one + " and " + two, both, Math.max(one, two));
            }
        }
    }

    /** A view fits any kind, and matches if its pattern matches the number that it gives. */
    private static void viewsFitAnyKind() {
        Patternforge x = withTypes();
        for (int i = 0; i < 4; i++) for (int j = 0; j < 2; j++) x.constructor(i, 0, 0, 0, 0);
        int[] value = new int[6];
        for (int i = 0; i < 4; i++) value[i] = x.data(i, i % 3, NONE, NONE, NONE);
        value[NUMBER] = x.num(8);
        value[SEQUENCE] = x.seq(2, 9, 4, 0);
        int[] measure = {0, 5, 10, 0, 8, 19};
        int[] gives = {0, 5, 0, 0, 8, 9};
        int[] seen = new int[10];
        for (int i = 0; i < 10; i++) seen[i] = x.view(2, x.range(i, i));
        due.is("P11 a view fits any kind", () -> x.either(seen[0], seen[1]), 20);
        for (int kind = 0; kind < 6; kind++) {
            int k = kind;
            x.begin(1, kind, 0, 0);
            due.is("P15 a view in kind " + kind, () -> x.add(seen[gives[k]], NONE, NONE, 1), 0);
            x.add(seen[(gives[kind] + 1) % 10], NONE, NONE, 2);
            runs(x, "P11 kind " + kind + " of measure " + measure[kind], 1, value[kind], NONE, NONE);
            due.is("P22 kind " + kind, () -> x.viewAt(0), 200010 + gives[k]);
        }
        x.constructor(0, 3, SEQUENCE, NUMBER, 3);
        int made = x.make(0, 3, seen[9], seen[8], seen[0]);
        int data = x.data(0, 3, value[SEQUENCE], value[NUMBER], value[3]);
        x.begin(1, 0, 0, 0);
        x.add(made, NONE, NONE, 3);
        x.run(0, data, NONE, NONE);
        due.is("P11 views in fields", () -> x.views(), 3);
        due.is("P22 the third field", () -> x.viewAt(2), 200080);
        runs(x, "P11 views in fields", 3, data, NONE, NONE);
    }

    /** A list in a field of a field: the numbers of a sequence have the places behind that. */
    private static void listsInFields() {
        for (int rest = 0; rest < 3; rest++) {
            Patternforge x = new Patternforge();
            x.constructor(0, 3, NUMBER, NUMBER, SEQUENCE);
            x.constructor(1, 3, NUMBER, NUMBER, 0);
            int any = x.any(), list = x.list(2, x.name(0, any), x.name(1, x.range(2, 8)), rest);
            int inner = x.make(0, 0, any, any, list), outer = x.make(1, 0, any, any, inner);
            x.begin(3, NUMBER, NUMBER, 1);
            x.add(any, any, outer, 1);
            int zero = x.num(0);
            // Place 3, 18 as the third field of that, 93 as the third one of that, 466 to 468 in that.
            for (int length = 0; length <= 3; length++) {
                int sequence = x.seq(length, length > 0 ? 5 : 0, length > 1 ? 6 : 0, length > 2 ? 7 : 0);
                int value = x.data(1, 0, zero, zero, x.data(0, 0, zero, zero, sequence));
                boolean fits = rest == NO_REST ? length == 2 : length >= 2;
                int from = rest == AT_BEGIN && length == 3 ? 467 : 466;
                for (int engine = 0; engine < 4; engine++) {
                    int e = engine;
                    String what = "rest " + rest + " of " + length + " by " + e;
                    due.is("P12 " + what, () -> x.run(e, zero, zero, value), fits ? 1 : -1);
                    due.is("P23 the first number, " + what, () -> x.bound(0), fits ? from : NONE);
                    due.is("P23 the second number, " + what, () -> x.bound(1), fits ? from + 1 : NONE);
                }
            }
        }
    }

    /** The remainder by m, from 0 to m - 1, of a times the measure, b times the views ahead, and c. */
    private static void viewNumbers() {
        int[] factors = {-9, -1, 0, 1, 9};
        for (int a : factors) {
            for (int b : factors) {
                Patternforge x = new Patternforge();
                x.constructor(0, 3, NUMBER, SEQUENCE, SEQUENCE);
                int seen = x.view(1, x.any());
                int value = x.data(0, 0, x.num(9), x.seq(3, 9, 9, 2), x.seq(2, 6, 5, 0));
                int measure = (9 + 2 * 29 + 3 * 17) % 97;
                x.begin(3, 0, 0, 0);
                x.add(seen, seen, seen, 1);
                for (int c : factors) {
                    for (int m : new int[] {1, 2, 7, 10}) {
                        x.setView(1, a, b, c, m);
                        x.run(m % 2, value, value, value);
                        for (int i = 0; i < 3; i++) {
                            int n = i, gives = Math.floorMod(a * measure + b * i + c, m);
                            due.is("P13 " + a + " " + b + " " + c + " " + m, () -> x.viewAt(n), 100010 + 10 * n + gives);
                        }
                    }
                }
            }
        }
    }

    /** A view with m = 1 gives 0 whatever the value is; it is run all the same. */
    private static void viewsOfOneNumber() {
        Patternforge x = new Patternforge();
        int any = x.any();
        due.is("P13 m = 1", () -> x.setView(2, 9, 9, 9, 1), 10);
        x.begin(1, NUMBER, 0, 0);
        x.add(x.view(2, x.range(1, 9)), NONE, NONE, 1);
        x.add(x.view(2, x.range(0, 0)), NONE, NONE, 2);
        due.is("P25 the view and one leaf", () -> x.size(2, false), 2);
        due.is("P25 the view is not replaced", () -> x.size(3, true), 2);
        due.is("P28 the first case", () -> x.isUsed(0), false);
        due.is("P26 none missing", () -> x.missing(), 0);
        for (int i = 0; i < 10; i++) {
            int value = x.num(i);
            for (int engine = 0; engine < 4; engine++) {
                int e = engine;
                due.is("P13 of " + i + " by " + e, () -> x.run(e, value, NONE, NONE), 2);
                due.is("P22 of " + i + " by " + e, () -> x.viewAt(0), 200010);
                due.is("P20 of " + i + " by " + e, () -> x.tests(), e < 2 ? 2 : 1);
            }
        }
        due.is("P13 from 1 to 10", () -> x.setView(2, 0, 0, 0, 10), 1);
        due.is("P25 ten leaves", () -> x.size(2, false), 11);
        due.is("P28 the first case", () -> x.isUsed(0), true);
    }

    /** That there are 60 patterns is named by what makes one; setView makes none. */
    private static void setViewWithoutRoom() {
        Patternforge x = Standing.FULL.make();
        due.fails(Due.STATE, "P6 there are 60", () -> x.any());
        due.is("P13 view 0, of 60 patterns", () -> x.setView(0, 1, 1, 1, 2), 7);
        due.is("P13 view 1, of 60 patterns", () -> x.setView(1, 1, 1, 1, 2), 5);
        due.is("P13 view 2, of 60 patterns", () -> x.setView(2, 1, 1, 1, 2), 3);
        due.is("P13 view 2 again", () -> x.setView(2, 1, 1, 1, 1), 2);
    }

    /** The numbers of a view hold for the runs that follow; what is told of the latest run stays. */
    private static void setViewBetweenRuns() {
        Patternforge x = new Patternforge();
        int any = x.any();
        x.begin(1, NUMBER, 0, 0);
        x.add(x.either(x.view(0, x.range(0, 4)), x.view(1, any)), NONE, NONE, 1);
        int seven = x.num(7);
        for (int engine = 0; engine < 4; engine++) {
            int e = engine;
            x.setView(0, 1, 0, 0, 10);
            due.is("P13 by " + e, () -> x.run(e, seven, NONE, NONE), 1);
            due.is("P21 two views by " + e, () -> x.views(), 2);
            due.is("P13 ten ahead", () -> x.setView(0, -1, 0, 0, 9), 10);
            due.is("P21 the latest run stays", () -> x.views(), 2);
            due.is("P22 the latest run stays", () -> x.viewAt(0), 17);
            due.is("P20 the latest run stays", () -> x.tests(), e < 2 ? 1 : 2);
            due.is("P13 the next run by " + e, () -> x.run(e, seven, NONE, NONE), 1);
            due.is("P22 -7 by 9", () -> x.viewAt(0), 12);
            due.is("P21 one view by " + e, () -> x.views(), 1);
            due.fails(Due.INDEX, "P22 no second one by " + e, () -> x.viewAt(1));
        }
    }

    // ---- promises 14 to 18

    /** Begins a match without cases, in place of the one before; types, values, patterns and views stay. */
    private static void beginKeepsTheRest() {
        Patternforge x = Standing.FULL.make();
        due.is("P14 eight cases before", () -> x.begin(2, NUMBER, 0, 0), 8);
        due.is("P14 none before", () -> x.begin(2, NUMBER, 0, 0), 0);
        due.is("P20 no run then", () -> x.tests(), 0);
        due.is("P21 no run then", () -> x.views(), 0);
        for (int i = 0; i < 6; i++) {
            int name = i;
            due.is("P23 no run then", () -> x.bound(name), NONE);
        }
        for (int i = 0; i < 8; i++) {
            int number = i;
            due.fails(Due.INDEX, "P24 no cases then", () -> x.taken(number));
            due.fails(Due.INDEX, "P28 no cases then", () -> x.isUsed(number));
        }
        runs(x, "P19 no cases then", -1, Standing.THREE, Standing.CONS, NONE);
        due.is("P25 a leaf", () -> x.size(3, true), 1);
        due.is("P15 case 0 again", () -> x.add(Standing.SMALL_NAMED, Standing.VIEW_0, NONE, 6), 0);
        due.is("P16 no guard of the case before", () -> x.guard(0, Patternforge.SAME, 0, 3), NONE);
        due.is("P24 not taken", () -> x.taken(0), 0);
        runs(x, "P19 by the patterns that were there", 6, Standing.THREE, Standing.CONS, NONE);
        due.is("P24 by four engines", () -> x.taken(0), 4);
        due.is("P13 the view that was there", () -> x.setView(0, 1, 0, 0, 10), 7);
        due.is("P14 one case before", () -> x.begin(3, SEQUENCE, SEQUENCE, 3), 1);
        due.fails(Due.STATE, "P3 40 values still", () -> x.num(1));
        due.fails(Due.STATE, "P6 60 patterns still", () -> x.any());
    }

    /** Cases are numbered from 0, up to 8; all of them are tried, by their order. */
    private static void eightCases() {
        Patternforge x = new Patternforge();
        int any = x.any();
        x.begin(2, NUMBER, NUMBER, 0);
        int[] value = new int[10];
        for (int i = 0; i < 10; i++) value[i] = x.num(i);
        for (int i = 0; i < 8; i++) {
            int n = i;
            due.is("P15 case " + i, () -> x.add(x.range(n, n), x.name(n % 6, any), NONE, 10 + n), n);
        }
        due.fails(Due.STATE, "P15 it has 8", () -> x.add(any, any, NONE, 0));
        for (int i = 0; i < 10; i++) {
            int n = i;
            runs(x, "P19 case " + i, i < 8 ? 10 + i : -1, value[i], value[9 - i], NONE);
            if (i < 8) due.is("P24 case " + i, () -> x.taken(n), 4);
            for (int j = 0; j < 6; j++) {
                int name = j;
                due.is("P23 name " + j + " in case " + i, () -> x.bound(name), n < 8 && n % 6 == name ? 2 : NONE);
            }
        }
        for (int i = 0; i < 8; i++) {
            int n = i;
            due.is("P28 case " + i, () -> x.isUsed(n), true);
            due.is("P16 a guard of case " + i, () -> x.guard(n, Patternforge.RAISES, n % 6, 5), NONE);
        }
        due.is("P26 8 and 9", () -> x.missing(), 2);
        due.is("P27 8 is the first one", () -> x.example(1), 8);
        for (int i = 0; i < 8; i++) runs(x, "P19 case " + i + " raises", -2, value[i], value[5], NONE);
        due.is("P14 eight", () -> x.begin(1, 0, 0, 0), 8);
    }

    /** A result is 0 to 99. */
    private static void results() {
        for (int result : new int[] {0, 1, 50, 98, 99}) {
            Patternforge x = new Patternforge();
            x.begin(1, NUMBER, 0, 0);
            due.is("P15 result " + result, () -> x.add(x.any(), NONE, NONE, result), 0);
            runs(x, "P19 result " + result, result, x.num(0), NONE, NONE);
        }
    }

    /** A match has 1 to 3 columns, each of a kind; a case has a pattern for each column. */
    private static void patternsOfColumns() {
        for (int turn = 0; turn < 6; turn++) {
            for (int columns = 1; columns <= 3; columns++) {
                Patternforge x = withTypes();
                int[] kind = new int[3], value = {NONE, NONE, NONE}, pattern = {NONE, NONE, NONE};
                for (int i = 0; i < columns; i++) {
                    kind[i] = (turn + 5 * i) % 6;
                    pattern[i] = patternOf(x, kind[i]);
                    value[i] = kind[i] < 4 ? x.data(kind[i], 0, NONE, NONE, NONE)
                            : kind[i] == NUMBER ? x.num(2) : x.seq(0, 0, 0, 0);
                }
                int c = columns;
                String what = columns + " columns from kind " + turn;
                due.is("P14 " + what, () -> x.begin(c, kind[0], kind[1], kind[2]), 0);
                due.is("P15 " + what, () -> x.add(pattern[0], pattern[1], pattern[2], 8), 0);
                runs(x, "P19 " + what, 8, value[0], value[1], value[2]);
                int any = x.any();
                for (int i = 0; i < columns; i++) {
                    int[] less = pattern.clone();
                    less[i] = NONE;
                    due.fails(Due.INDEX, "P15 " + what + ", one less", () -> x.add(less[0], less[1], less[2], 8));
                }
                if (columns < 3) {
                    int[] more = pattern.clone();
                    more[columns] = any;
                    due.fails(Due.ARGUMENT, "P15 " + what + ", one more", () -> x.add(more[0], more[1], more[2], 8));
                }
                due.is("P15 one pattern for all of " + what,
                        () -> x.add(any, c > 1 ? any : NONE, c > 2 ? any : NONE, 9), 1);
            }
        }
    }

    /** LESS, SAME, MORE and RAISES, of each number and each one that it is held against. */
    private static void everyGuard() {
        for (int guard = 0; guard < 4; guard++) {
            for (int than = 0; than < 10; than++) {
                Patternforge x = new Patternforge();
                int any = x.any();
                x.begin(1, NUMBER, 0, 0);
                x.add(x.name(2, any), NONE, NONE, 1);
                x.add(any, NONE, NONE, 2);
                int g = guard, t = than;
                due.is("P16 guard " + guard + " " + than, () -> x.guard(0, g, 2, t), NONE);
                for (int i = 0; i < 10; i++) {
                    boolean holds = guard == 0 ? i < than : guard == 1 ? i == than : guard == 2 ? i > than : i != than;
                    int value = x.num(i);
                    for (int engine = 0; engine < 4; engine++) {
                        int e = engine;
                        String what = "guard " + guard + " " + than + " of " + i + " by " + e;
                        due.is("P16 " + what, () -> x.run(e, value, NONE, NONE), holds ? 1 : g == 3 ? -2 : 2);
                        due.is("P23 " + what, () -> x.bound(2), holds || g == 3 ? 1 : NONE);
                        due.is("P20 " + what, () -> x.tests(), 0);
                    }
                }
            }
        }
    }

    /** A guard is about the number that a name is bound to, on the way on which its case matched. */
    private static void guardsOnEachWay() {
        Patternforge x = new Patternforge();
        x.constructor(0, 2, NUMBER, SEQUENCE, 0);
        int any = x.any(), name = x.name(4, any), low = x.range(0, 4);
        int field = x.make(0, 0, name, x.list(0, NONE, NONE, NO_REST), NONE);
        int last = x.make(0, 0, any, x.list(1, name, NONE, AT_BEGIN), NONE);
        int seen = x.make(0, 0, x.name(4, x.view(0, low)), any, NONE);
        x.begin(2, 0, NUMBER, 0);
        x.add(x.either(field, last), any, NONE, 1);
        x.add(x.either(seen, x.make(0, 0, name, any, NONE)), any, NONE, 2);
        x.add(any, x.name(5, low), NONE, 3);
        due.is("P16 a field, or the last number", () -> x.guard(0, Patternforge.SAME, 4, 6), NONE);
        due.is("P16 a field with a view", () -> x.guard(1, Patternforge.MORE, 4, 2), NONE);
        due.is("P16 the second column", () -> x.guard(2, Patternforge.LESS, 5, 4), NONE);
        for (int i = 0; i < 10; i++) x.num(i);
        int none = x.seq(0, 0, 0, 0), one = x.seq(1, 6, 0, 0), three = x.seq(3, 6, 6, 2);
        int[][] all = {{6, none, 0, 1, 6}, {2, none, 0, 3, NONE}, {2, one, 9, 1, 36}, {2, three, 9, -1, NONE},
            {6, three, 9, 2, 6}, {3, three, 0, 2, 6}, {1, three, 4, -1, NONE}, {1, three, 3, 3, NONE}};
        for (int[] row : all) {
            int value = x.data(0, 0, row[0], row[1], NONE);
            for (int engine = 0; engine < 2; engine++) {
                int e = engine;
                due.is("P16 " + row[0] + " " + row[1] + " by " + e, () -> x.run(e, value, row[2], NONE), row[3]);
                due.is("P23 " + row[0] + " " + row[1] + " by " + e, () -> x.bound(4), row[4]);
                due.is("P23 the other name", () -> x.bound(5), row[3] == 3 ? 2 : NONE);
            }
        }
    }

    /** Gives a case a guard, in place of the one before; NONE for no guard. */
    private static void guardInPlaceOfAnother() {
        Patternforge x = new Patternforge();
        int any = x.any();
        x.begin(2, NUMBER, NUMBER, 0);
        x.add(x.name(0, any), x.name(1, any), NONE, 1);
        int two = x.num(2), five = x.num(5);
        int[][] all = {{0, 0, 5, 1, -1}, {0, 1, 5, -1, 1}, {3, 0, 5, 1, -2}, {2, 1, 4, 1, -1}, {1, 0, 2, 1, -1},
            {NONE, 0, 9, 1, 1}, {NONE, 0, 0, 1, 1}, {3, 1, 5, -2, 1}};
        int before = NONE;
        for (int[] row : all) {
            int b = before;
            String what = row[0] + " " + row[1] + " " + row[2];
            due.is("P16 the guard before " + what, () -> x.guard(0, row[0], row[1], row[2]), b);
            runs(x, "P16 " + what + " of 2 and 5", row[3], two, five, NONE);
            runs(x, "P16 " + what + " of 5 and 2", row[4], five, two, NONE);
            before = row[0];
        }
    }

    /** Splits up to 8 cases: with 7 it is done, with 8 it is not. */
    private static void splitUpToEight() {
        for (int number = 0; number < 7; number++) {
            for (int column = 0; column < 3; column++) {
                Patternforge x = new Patternforge();
                int any = x.any(), low = x.range(0, 4), high = x.range(5, 9), both = x.either(low, high);
                int[] p = {any, any, any};
                p[column] = both;
                x.begin(3, NUMBER, NUMBER, NUMBER);
                for (int i = 0; i < 7; i++) x.add(p[0], p[1], p[2], 20 + i);
                int n = number, c = column;
                due.is("P17 of seven, " + number + " " + column, () -> x.split(n, c), 8);
                for (int i = 0; i < 8; i++) {
                    int m = i;
                    due.fails(Due.STATE, "P17 of eight, " + i + " " + column, () -> x.split(m, c));
                }
                due.is("P14 eight", () -> x.begin(1, 0, 0, 0), 8);
            }
        }
    }

    /** Splitting makes no pattern: with 60 of them it is done. */
    private static void splitWithoutRoomForPatterns() {
        Patternforge x = new Patternforge();
        int low = x.range(0, 4), high = x.range(5, 9), both = x.either(low, high);
        fill(x, 60);
        x.begin(1, NUMBER, 0, 0);
        x.add(both, NONE, NONE, 1);
        due.is("P17 with 60 patterns", () -> x.split(0, 0), 2);
        due.fails(Due.STATE, "P18 with 60 patterns", () -> x.merge(0, 0));
        runs(x, "P19 the first alternative", 1, x.num(4), NONE, NONE);
        runs(x, "P19 the second alternative", 1, x.num(5), NONE, NONE);
        due.is("P24 the first one", () -> x.taken(0), 4);
        due.is("P24 the second one", () -> x.taken(1), 4);
    }

    /** One behind the other: the cases behind the split one come behind both, with all that is theirs. */
    private static void splitMovesWhatIsBehind() {
        Patternforge x = new Patternforge();
        int low = x.name(0, x.range(0, 1)), high = x.name(0, x.range(2, 3)), both = x.either(low, high);
        x.begin(1, NUMBER, 0, 0);
        for (int i = 0; i < 3; i++) x.add(x.name(i + 1, x.range(7 + i, 7 + i)), NONE, NONE, 7 + i);
        x.add(both, NONE, NONE, 0);
        for (int i = 3; i < 5; i++) x.add(x.name(i + 1, x.range(1 + i, 1 + i)), NONE, NONE, 1 + i);
        for (int i = 0; i < 10; i++) x.num(i);
        int[] number = {0, 1, 2, 4, 5};
        int[] name = {1, 2, 3, 4, 5};
        for (int i = 0; i < 5; i++) x.guard(number[i], i % 4, name[i], 9 - i);
        for (int i = 0; i < 10; i++) x.run(i % 4, i, NONE, NONE);
        int[] taken = new int[6], result = new int[10];
        for (int i = 0; i < 6; i++) taken[i] = x.taken(i);
        for (int i = 0; i < 10; i++) result[i] = x.run(0, i, NONE, NONE);
        for (int i = 0; i < 6; i++) taken[i] = x.taken(i);
        due.is("P24 the case that is split", () -> x.taken(3), 8);
        due.is("P17 the fourth one", () -> x.split(3, 0), 7);
        int[] from = {0, 1, 2, NONE, NONE, 4, 5};
        for (int i = 0; i < 7; i++) {
            int n = i;
            due.is("P24 taken, then case " + i, () -> x.taken(n), from[n] == NONE ? 0 : taken[from[n]]);
        }
        for (int i = 0; i < 10; i++) runs(x, "P19 of " + i + " after the split", result[i], i, NONE, NONE);
        int[] guards = {0, 1, 2, NONE, NONE, 3, 0};
        for (int i = 0; i < 7; i++) {
            int n = i;
            due.is("P16 the guard, then of case " + i, () -> x.guard(n, NONE, 0, 0), guards[n]);
        }
        due.is("P24 the first alternative", () -> x.taken(3), 8);
        due.is("P24 the second alternative", () -> x.taken(4), 8);
    }

    /** The patterns of both are the alternatives themselves, by their numbers; the others stay. */
    private static void splitByNumbers() {
        Patternforge x = new Patternforge();
        int any = x.any(), low = x.range(0, 4), high = x.range(5, 9), both = x.either(low, x.either(high, any));
        x.begin(2, NUMBER, NUMBER, 0);
        x.add(low, high, NONE, 1);
        x.add(both, low, NONE, 1);
        due.is("P17 three", () -> x.split(1, 0), 3);
        due.is("P17 four", () -> x.split(2, 0), 4);
        x.add(any, high, NONE, 1);
        int next = x.any() + 1;
        // Cases: low high, low low, high low, any low, any high.
        due.is("P18 by the same first ones", () -> x.merge(0, 1), 4);
        due.is("P18 by the same last ones", () -> x.merge(2, 1), 3);
        due.fails(Due.STATE, "P18 unlike second ones", () -> x.merge(0, 0));
        due.is("P18 two new patterns", () -> x.any(), next + 2);
    }

    /** A new pattern of two alternatives: with 59 patterns it is made, with 60 it is not. */
    private static void mergeUpToSixty() {
        for (int there = 58; there <= 60; there++) {
            Patternforge x = new Patternforge();
            int any = x.any();
            fill(x, there);
            x.begin(2, NUMBER, 0, 0);
            for (int i = 0; i < 4; i++) x.add(any, any, NONE, 9);
            int made = 60 - there;
            for (int i = 0; i < made; i++) {
                int left = 3 - i;
                due.is("P18 with " + (there + i), () -> x.merge(0, 0), left);
            }
            due.fails(Due.STATE, "P18 with 60", () -> x.merge(0, 0));
            due.fails(Due.STATE, "P6 with 60", () -> x.any());
            due.is("P14 those that are left", () -> x.begin(1, 0, 0, 0), 4 - made);
        }
    }

    /** Both could not be alternatives: a size of 40 could be, one of 41 could not. */
    private static void mergeUpToASizeOfForty() {
        Patternforge x = new Patternforge();
        x.constructor(0, 1, 0, 0, 0);
        int any = x.any(), made = x.make(0, 0, any, NONE, NONE), four = x.either(made, any);
        int three = x.either(any, any), seven = x.either(three, three), fifteen = x.either(seven, seven);
        int nineteen = x.either(fifteen, three), thirtyone = x.either(fifteen, fifteen);
        int thirtyfive = x.either(thirtyone, three), thirtyseven = x.either(thirtyfive, any);
        x.begin(1, 0, 0, 0);
        x.add(made, NONE, NONE, 1);
        x.add(thirtyseven, NONE, NONE, 1);
        x.add(four, NONE, NONE, 1);
        x.add(nineteen, NONE, NONE, 1);
        x.add(nineteen, NONE, NONE, 1);
        due.fails(Due.STATE, "P18 1, 37 and 4", () -> x.merge(1, 0));
        due.is("P18 1, 19 and 19", () -> x.merge(3, 0), 4);
        due.fails(Due.STATE, "P18 1, 4 and 39", () -> x.merge(2, 0));
        due.is("P18 1, 2 and 37", () -> x.merge(0, 0), 3);
        due.fails(Due.STATE, "P18 1, 40 and 4", () -> x.merge(0, 0));
        due.is("P18 two new patterns", () -> x.any(), thirtyseven + 3);
        due.fails(Due.ARGUMENT, "P10 the second one has a size of 40", () -> x.name(0, thirtyseven + 2));
    }

    /** The new pattern has the kind of the one that has one; a later case is tried behind it. */
    private static void mergeOfKinds() {
        Patternforge x = new Patternforge();
        int any = x.any(), low = x.range(0, 4);
        x.begin(1, NUMBER, 0, 0);
        x.add(low, NONE, NONE, 1);
        x.add(any, NONE, NONE, 1);
        x.add(any, NONE, NONE, 1);
        due.is("P18 a range and any", () -> x.merge(0, 0), 2);
        int both = x.any() - 1;
        x.add(both, NONE, NONE, 2);
        due.is("P18 alternatives and any", () -> x.merge(0, 0), 2);
        runs(x, "P19 a range and any", 1, x.num(7), NONE, NONE);
        x.begin(1, SEQUENCE, 0, 0);
        due.fails(Due.ARGUMENT, "P15 it has the kind of the range", () -> x.add(both, NONE, NONE, 0));
        due.fails(Due.ARGUMENT, "P15 and so have both", () -> x.add(both + 2, NONE, NONE, 0));
        due.fails(Due.ARGUMENT, "P10 and in alternatives", () -> x.either(both + 2, x.list(0, NONE, NONE, 0)));
    }

    /** The cases behind both come behind the new one, with all that is theirs. */
    private static void mergeMovesWhatIsBehind() {
        for (int number = 0; number < 7; number++) {
            Patternforge x = new Patternforge();
            x.begin(1, NUMBER, 0, 0);
            for (int i = 0; i < 10; i++) x.num(i);
            // Both cases have the result 50; all others their own.
            for (int i = 0; i < 8; i++) {
                boolean isOne = i == number || i == number + 1;
                x.add(x.name(isOne ? 0 : 1, x.range(i, i)), NONE, NONE, isOne ? 50 : i);
            }
            for (int i = 0; i < 8; i++) for (int j = 0; j <= i; j++) x.run(j % 2, i, NONE, NONE);
            for (int i = 0; i < 8; i++) if (i != number && i != number + 1) x.guard(i, i % 4, 1, 9);
            int n = number;
            due.is("P18 of eight, " + number, () -> x.merge(n, 0), 7);
            for (int i = 0; i < 7; i++) {
                int m = i, from = i > number ? i + 1 : i;
                due.is("P24 merged " + number + ", then case " + i, () -> x.taken(m), m == n ? 0 : from + 1);
                due.is("P16 merged " + number + ", then case " + i, () -> x.guard(m, NONE, 0, 0), m == n ? NONE : from % 4);
            }
            due.fails(Due.INDEX, "P24 merged " + number + ", the last one", () -> x.taken(7));
            for (int i = 0; i < 8; i++) {
                runs(x, "P19 merged " + number + " of " + i, i == number || i == number + 1 ? 50 : i, i, NONE, NONE);
            }
            due.is("P24 by four engines and two numbers", () -> x.taken(n), 8);
        }
    }
}
