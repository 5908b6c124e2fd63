import java.util.ArrayList;
import java.util.List;

/**
 * The edges that promises 19 to 28, and the terms of runs and trees above them, name, on the side where
 * a call answers; the other side is in RefusedTest.
 */
public final class RunEdgesTest {
    private static final int NONE = Patternforge.NONE;
    private static final int NUMBER = Patternforge.NUMBER;
    private static final int SEQUENCE = Patternforge.SEQUENCE;
    private static final int HOLE = Patternforge.HOLE, LARGE = Patternforge.TOO_LARGE;
    private static final int PLAIN = Patternforge.PLAIN, FIRST = Patternforge.FIRST, MOST = Patternforge.MOST;
    private static final int TOP = Integer.MAX_VALUE, LOW = Integer.MIN_VALUE;

    private static final Due due = new Due("RunEdgesTest");

    public static void main(String[] args) {
        matchWithoutCases();
        raisedEndsTheRun();
        failedGuardsTryTheNext();
        secondAlternativesByGuards();
        runsAfterLargeTrees();
        latestRunStays();
        testsOfEachPattern();
        testsByTrees();
        manyTests();
        manyCodes();
        manyViews();
        viewsByEachRun();
        viewsAtTheDeepestPlaces();
        namesOfOtherCases();
        namesOfTheFirstAlternative();
        namesOfRaised();
        fiveHundredRuns();
        fiveHundredAndTwelveCalls();
        rootsOfTrees();
        widthsOfTrees();
        sizesAskedByTurns();
        replacedUpwards();
        notReplaced();
        sameNodes();
        leavesThatAreTheSame();
        placesThatAreNeeded();
        tiesOfPlaces();
        casesThatCount();
        casesFoundToFailLater();
        needsOnce();
        needsOfAlternatives();
        needsOfLists();
        missingByEachSort();
        examplesByRisingNumbers();
        examplesBehindGuards();
        exampleOfTheRoot();
        usedFollowsChanges();
        usedByRaisedAndGuards();
        due.end();
    }

    private static void runs(Patternforge x, String call, int want, int first, int second, int third) {
        for (int engine = 0; engine < 4; engine++) {
            int e = engine;
            due.is(call + " by " + e, () -> x.run(e, first, second, third), want);
        }
    }

    private static void sizes(Patternforge x, String what, int first, int firstShared, int most, int mostShared) {
        due.is("P25 FIRST, " + what, () -> x.size(FIRST, false), first);
        due.is("P25 FIRST, shared, " + what, () -> x.size(FIRST, true), firstShared);
        due.is("P25 MOST, " + what, () -> x.size(MOST, false), most);
        due.is("P25 MOST, shared, " + what, () -> x.size(MOST, true), mostShared);
    }

    /** Type t has t + 1 constructors without fields. */
    private static Patternforge withTypes() {
        Patternforge x = new Patternforge();
        for (int t = 0; t < 4; t++) for (int i = 0; i <= t; i++) x.constructor(t, 0, 0, 0, 0);
        return x;
    }

    // ---- promise 19

    /** If no case is taken, it is MISSED. */
    private static void matchWithoutCases() {
        Patternforge x = new Patternforge();
        int three = x.num(3);
        x.begin(1, NUMBER, 0, 0);
        for (int engine = 0; engine < 4; engine++) {
            int e = engine;
            due.is("P19 no cases by " + e, () -> x.run(e, three, NONE, NONE), Patternforge.MISSED);
            due.is("P20 no cases by " + e, () -> x.tests(), 0);
            due.is("P21 no cases by " + e, () -> x.views(), 0);
            due.is("P23 no cases by " + e, () -> x.bound(0), NONE);
        }
    }

    /** If the guard raises, the run is RAISED, with this case, which is not taken; no later case is tried. */
    private static void raisedEndsTheRun() {
        Patternforge x = new Patternforge();
        int any = x.any();
        x.begin(1, NUMBER, 0, 0);
        x.add(x.name(0, x.view(0, any)), NONE, NONE, 1);
        x.add(x.name(1, x.view(1, any)), NONE, NONE, 2);
        x.guard(0, Patternforge.RAISES, 0, 4);
        int four = x.num(4), five = x.num(5);
        for (int engine = 0; engine < 4; engine++) {
            int e = engine;
            due.is("P19 raised by " + e, () -> x.run(e, four, NONE, NONE), Patternforge.RAISED);
            due.is("P21 the view of the first case alone, by " + e, () -> x.views(), 1);
            due.is("P23 its name by " + e, () -> x.bound(0), 1);
            due.is("P23 not the other name by " + e, () -> x.bound(1), NONE);
            due.is("P24 not taken by " + e, () -> x.taken(0), e);
            due.is("P19 held by " + e, () -> x.run(e, five, NONE, NONE), 1);
            due.is("P24 taken by " + e, () -> x.taken(0), e + 1);
        }
        due.is("P24 never tried", () -> x.taken(1), 0);
    }

    /** If it fails, the next case is tried: though it has the same patterns, by what is known already. */
    private static void failedGuardsTryTheNext() {
        Patternforge x = new Patternforge();
        int any = x.any(), low = x.name(0, x.range(0, 8)), seen = x.view(0, any);
        x.begin(2, NUMBER, NUMBER, 0);
        for (int i = 0; i < 8; i++) x.add(low, seen, NONE, i);
        for (int i = 0; i < 8; i++) x.guard(i, Patternforge.SAME, 0, i);
        for (int i = 0; i < 10; i++) {
            int value = x.num(i), n = i;
            for (int engine = 0; engine < 2; engine++) {
                int e = engine;
                due.is("P19 " + i + " by " + e, () -> x.run(e, value, value, NONE), n < 8 ? n : -1);
                due.is("P20 " + i + " by " + e, () -> x.tests(), n < 8 ? n + 1 : 8);
                due.is("P21 " + i + " by " + e, () -> x.views(), n < 9 ? 1 : 0);
                due.is("P23 " + i + " by " + e, () -> x.bound(0), n < 8 ? 1 : NONE);
            }
        }
        due.is("P25 too many leaves", () -> x.size(FIRST, false), LARGE);
        x.setView(0, 1, 0, 0, 2);
        // The number; for 0 to 8 the view and, for each of both numbers, 8 guards with 8 leaves, and MISSED.
        due.is("P25 2 for each of nine", () -> x.size(FIRST, false), 1 + 9 * (1 + 2 * 17) + 1);
        due.is("P26 all of these", () -> x.missing(), 19);
        for (int i = 0; i < 10; i++) {
            int n = i;
            for (int engine = 2; engine < 4; engine++) {
                int e = engine;
                due.is("P19 " + i + " by " + e, () -> x.run(e, n, n, NONE), n < 8 ? n : -1);
                due.is("P20 " + i + " by " + e, () -> x.tests(), n < 9 ? 2 : 1);
            }
        }
    }

    /** What comes later, a column or a guard, does not lead back to the second alternative. */
    private static void secondAlternativesByGuards() {
        Patternforge x = new Patternforge();
        x.constructor(0, 2, NUMBER, NUMBER, 0);
        int any = x.any(), name = x.name(0, any), low = x.range(0, 4);
        int both = x.either(x.make(0, 0, name, low, NONE), x.make(0, 0, any, name, NONE));
        x.begin(2, 0, NUMBER, 0);
        x.add(both, low, NONE, 1);
        x.add(both, any, NONE, 2);
        x.guard(0, Patternforge.MORE, 0, 6);
        x.guard(1, Patternforge.MORE, 0, 6);
        for (int i = 0; i < 10; i++) x.num(i);
        // Both fields, the second column, the result and the place of the name.
        int[][] all = {{7, 4, 0, 1, 6}, {4, 4, 0, -1, NONE}, {4, 7, 0, 1, 7}, {6, 6, 0, -1, NONE}, {7, 5, 0, -1, NONE},
            {7, 4, 9, 2, 6}, {0, 9, 9, 2, 7}, {9, 9, 9, 2, 7}, {9, 0, 9, 2, 6}, {3, 3, 9, -1, NONE}};
        for (int[] row : all) {
            int value = x.data(0, 0, row[0], row[1], NONE);
            for (int engine = 0; engine < 2; engine++) {
                int e = engine;
                String what = row[0] + " " + row[1] + " " + row[2] + " by " + e;
                due.is("P19 " + what, () -> x.run(e, value, row[2], NONE), row[3]);
                due.is("P23 " + what, () -> x.bound(0), row[4]);
            }
        }
    }

    /** A tree that was TOO_LARGE is made anew by what is told later. */
    private static void runsAfterLargeTrees() {
        Patternforge x = Standing.LARGE.make();
        int three = Standing.THREE, eight = Standing.EIGHT;
        due.fails(Due.STATE, "P19 too large", () -> x.run(FIRST, three, three, eight));
        due.is("P13 a smaller view", () -> x.setView(0, 2, 1, 3, 1), 7);
        due.is("P13 another one", () -> x.setView(1, 0, 0, 5, 1), 5);
        due.is("P16 no guard", () -> x.guard(1, NONE, 0, 0), 0);
        boolean isSmall = x.size(FIRST, false) != LARGE;
        due.holds("P25 small enough now", isSmall);
        if (isSmall) due.is("P19 small enough now", () -> x.run(FIRST, three, three, eight), 4);
        due.is("P13 ten numbers", () -> x.setView(0, 2, 1, 3, 10), 1);
        due.is("P25 too large again", () -> x.size(FIRST, true), LARGE);
        due.fails(Due.STATE, "P19 too large again", () -> x.run(FIRST, three, three, eight));
        due.is("P14 a small match", () -> x.begin(1, NUMBER, 0, 0), 3);
        runs(x, "P19 a small match", -1, three, NONE, NONE);
    }

    /** The latest run is told of whatever is told later, but for begin; a refused run is none. */
    private static void latestRunStays() {
        Patternforge x = Standing.RICH.make();
        int tests = x.tests();
        for (int step = 0; step < 12; step++) {
            switch (step) {
                case 0: x.constructor(3, 0, 0, 0, 0); break;
                case 1: x.num(1); break;
                case 2: x.seq(0, 0, 0, 0); break;
                case 3: x.data(0, 0, NONE, NONE, NONE); break;
                case 4: x.any(); break;
                case 5: x.setView(2, 0, 0, 0, 1); break;
                case 6: x.add(Standing.ANY, Standing.ANY, NONE, 1); break;
                case 7: x.guard(0, NONE, 0, 0); break;
                case 8: x.split(1, 0); break;
                case 9: x.merge(1, 0); break;
                case 10: x.missing(); break;
                default: x.size(MOST, true); break;
            }
            int n = step;
            due.is("P20 after step " + n, () -> x.tests(), tests);
            due.is("P21 after step " + n, () -> x.views(), 1);
            due.is("P22 after step " + n, () -> x.viewAt(0), 200020);
            due.is("P23 after step " + n, () -> x.bound(0), 11);
        }
        due.fails(Due.INDEX, "P19 a refused run", () -> x.run(PLAIN, 99, 99, NONE));
        due.is("P20 after a refused run", () -> x.tests(), tests);
        due.is("P23 after a refused run", () -> x.bound(0), 11);
        due.fails(Due.ARGUMENT, "P14 a refused begin", () -> x.begin(0, 0, 0, 0));
        due.is("P20 after a refused begin", () -> x.tests(), tests);
        due.is("P14 a begin", () -> x.begin(1, NUMBER, 0, 0), 6);
        due.is("P20 after begin", () -> x.tests(), 0);
        due.is("P21 after begin", () -> x.views(), 0);
        due.is("P23 after begin", () -> x.bound(0), NONE);
    }

    // ---- promise 20

    /** A test is each time a number, a constructor, or the length of a sequence is held against a pattern. */
    private static void testsOfEachPattern() {
        Patternforge x = new Patternforge();
        x.constructor(0, 1, NUMBER, 0, 0);
        x.constructor(0, 0, 0, 0, 0);
        int any = x.any(), low = x.range(0, 4), high = x.range(5, 9), seen = x.view(0, low), loose = x.view(0, any);
        int three = x.num(3), seven = x.num(7), one = x.seq(1, 7, 0, 0), two = x.seq(2, 3, 7, 0);
        int cons = x.data(0, 0, three, NONE, NONE), nil = x.data(0, 1, NONE, NONE, NONE);
        int chain = x.either(low, x.either(x.range(8, 9), x.either(x.range(6, 6), any)));
        int twice = x.view(1, x.either(x.range(9, 9), x.either(low, high)));
        // A kind, a pattern, a value, and the tests.
        int[][] all = {
            {NUMBER, any, three, 0}, {NUMBER, low, three, 1}, {NUMBER, low, seven, 1},
            {NUMBER, x.name(0, low), three, 1}, {NUMBER, x.name(0, any), three, 0},
            {NUMBER, seen, three, 1}, {NUMBER, seen, seven, 1}, {NUMBER, loose, seven, 0},
            {NUMBER, x.either(low, high), three, 1}, {NUMBER, x.either(low, high), seven, 2},
            {NUMBER, x.either(any, low), seven, 0}, {NUMBER, chain, seven, 3}, {NUMBER, chain, three, 1},
            {NUMBER, twice, three, 2}, {NUMBER, twice, seven, 3}, {NUMBER, x.either(seen, loose), seven, 1},
            {0, x.make(0, 0, any, NONE, NONE), cons, 1}, {0, x.make(0, 0, any, NONE, NONE), nil, 1},
            {0, x.make(0, 0, low, NONE, NONE), cons, 2}, {0, x.make(0, 0, low, NONE, NONE), nil, 1},
            {0, x.make(0, 0, high, NONE, NONE), cons, 2}, {0, x.make(0, 1, NONE, NONE, NONE), nil, 1},
            {0, x.make(0, 0, seen, NONE, NONE), cons, 2}, {0, seen, nil, 1}, {0, seen, cons, 1},
            {SEQUENCE, x.list(0, NONE, NONE, Patternforge.NO_REST), one, 1},
            {SEQUENCE, x.list(0, NONE, NONE, Patternforge.AT_END), one, 1},
            {SEQUENCE, x.list(1, high, NONE, Patternforge.NO_REST), one, 2},
            {SEQUENCE, x.list(2, high, high, Patternforge.AT_BEGIN), one, 1},
            {SEQUENCE, x.list(2, low, high, Patternforge.AT_BEGIN), two, 3},
            {SEQUENCE, x.list(2, high, high, Patternforge.AT_END), two, 2},
            {SEQUENCE, x.list(2, any, loose, Patternforge.AT_END), two, 1},
        };
        for (int i = 0; i < all.length; i++) {
            int[] row = all[i];
            x.begin(1, row[0], 0, 0);
            x.add(row[1], NONE, NONE, 1);
            for (int engine = 0; engine < 2; engine++) {
                int e = engine;
                x.run(e, row[2], NONE, NONE);
                due.is("P20 row " + i + " by " + e, () -> x.tests(), row[3]);
            }
        }
    }

    /** The nodes that ask for a constructor, number or length, or run a view, on the way; guards are none. */
    private static void testsByTrees() {
        Patternforge x = new Patternforge();
        x.constructor(0, 2, NUMBER, SEQUENCE, 0);
        int any = x.any(), low = x.range(0, 4), name = x.name(0, low);
        x.setView(0, 1, 0, 0, 1);
        int list = x.list(1, low, NONE, Patternforge.AT_END);
        x.begin(1, 0, 0, 0);
        x.add(x.make(0, 0, name, x.view(0, any), NONE), NONE, NONE, 1);
        x.add(x.make(0, 0, name, list, NONE), NONE, NONE, 2);
        x.guard(0, Patternforge.LESS, 0, 2);
        x.guard(1, Patternforge.LESS, 0, 4);
        for (int i = 0; i < 10; i++) x.num(i);
        int none = x.seq(0, 0, 0, 0), two = x.seq(2, 3, 9, 0), far = x.seq(1, 5, 0, 0);
        // The constructor and the number; a view; the guard; a length; its first number; the guard.
        int[][] all = {{1, none, 1, 3}, {2, none, -1, 4}, {3, two, 2, 5}, {4, two, -1, 5}, {3, far, -1, 5}, {5, two, -1, 2}};
        for (int[] row : all) {
            int value = x.data(0, 0, row[0], row[1], NONE);
            for (int engine = 2; engine < 4; engine++) {
                int e = engine;
                String what = row[0] + " " + row[1] + " by " + e;
                due.is("P19 " + what, () -> x.run(e, value, NONE, NONE), row[2]);
                due.is("P20 " + what, () -> x.tests(), row[3]);
            }
        }
    }

    /** Eight cases of three columns, each of twenty ranges that a number is held against. */
    private static void manyTests() {
        Patternforge x = new Patternforge();
        int pattern = x.range(0, 0), one = x.range(1, 8), nine = x.range(9, 9);
        for (int i = 0; i < 18; i++) pattern = x.either(pattern, i % 2 == 0 ? one : 0);
        int last = x.either(pattern, nine);
        x.begin(3, NUMBER, NUMBER, NUMBER);
        for (int i = 0; i < 8; i++) x.add(last, last, i < 7 ? pattern : last, i);
        int value = x.num(9);
        for (int engine = 0; engine < 2; engine++) {
            int e = engine;
            due.is("P19 by " + e, () -> x.run(e, value, value, value), 7);
            due.is("P20 by " + e, () -> x.tests(), 7 * (20 + 20 + 19) + 60);
        }
    }

    /** Eight cases of three columns, each of a pattern of 40 constructors: all of them are looked at. */
    private static void manyCodes() {
        Patternforge x = new Patternforge();
        for (int t = 0; t < 3; t++) x.constructor(t, 3, t + 1, t + 1, t + 1);
        x.constructor(3, 0, 0, 0, 0);
        x.constructor(3, 0, 0, 0, 0);
        int zero = x.make(3, 0, NONE, NONE, NONE), one = x.make(3, 1, NONE, NONE, NONE);
        int full = zero, almost = one;
        for (int t = 2; t >= 0; t--) {
            int ahead = full;
            full = x.make(t, 0, ahead, ahead, ahead);
            almost = x.make(t, 0, ahead, ahead, almost);
        }
        int value = x.data(3, 0, NONE, NONE, NONE);
        for (int t = 2; t >= 0; t--) value = x.data(t, 0, value, value, value);
        int v = value;
        due.fails(Due.ARGUMENT, "P7 the size is 40", () -> x.name(0, 7));
        x.begin(3, 0, 0, 0);
        for (int i = 0; i < 8; i++) x.add(full, full, i < 7 ? almost : full, 90 + i);
        for (int engine = 0; engine < 2; engine++) {
            int e = engine;
            due.is("P19 the eighth case by " + e, () -> x.run(e, v, v, v), 97);
            due.is("P20 all of eight cases by " + e, () -> x.tests(), 8 * 120);
        }
    }

    // ---- promises 21 and 22

    /** 288 views in a run: at each place that comes, the views 0 to 2, each once. */
    private static void manyViews() {
        for (int engine = 0; engine < 4; engine++) {
            Patternforge x = new Patternforge();
            for (int t = 0; t < 3; t++) x.constructor(t, 3, t + 1, t + 1, t + 1);
            x.constructor(3, 0, 0, 0, 0);
            for (int i = 0; i < 3; i++) x.setView(i, 1, 0, 0, 1);
            int[] all = threeViews(x, true), failing = threeViews(x, false);
            List<Integer> want = new ArrayList<>();
            x.begin(3, 0, 0, 0);
            for (int i = 0; i < 8; i++) {
                int a = i / 3, b = i % 3;
                int root = within(x, 0, all[b], a), last = i == 7 ? root : within(x, 0, failing[b], a);
                x.add(root, root, last, i);
                for (int column = 1; column <= 3; column++) looked(want, 5 * column + a + 1, b);
            }
            int value = x.data(3, 0, NONE, NONE, NONE);
            for (int t = 2; t >= 0; t--) value = x.data(t, 0, value, value, value);
            int v = value, e = engine;
            due.is("P19 by " + e, () -> x.run(e, v, v, v), 7);
            due.is("P21 by " + e, () -> x.views(), 288);
            for (int i = 0; i < want.size(); i++) {
                int index = i;
                due.is("P22 viewAt(" + i + ") by " + e, () -> x.viewAt(index), want.get(i));
            }
            due.fails(Due.INDEX, "P22 viewAt(288) by " + e, () -> x.viewAt(288));
        }
    }

    private static int within(Patternforge x, int type, int pattern, int field) {
        int any = 0;
        return x.make(type, 0, field == 0 ? pattern : any, field == 1 ? pattern : any, field == 2 ? pattern : any);
    }

    /**
     * Three patterns of type 1: with three views at each field of one of its fields, and at the next
     * field; the last view that is come to may fail. The first pattern of the object is any.
     */
    private static int[] threeViews(Patternforge x, boolean isMatching) {
        int any = isMatching ? x.any() : 0, one = x.range(1, 1);
        int first = x.view(0, one), second = x.view(1, one), third = x.view(2, any), no = x.view(2, one);
        int three = x.either(first, x.either(second, third));
        int last = isMatching ? three : x.either(first, x.either(second, no));
        int row = x.make(2, 0, three, three, three), lastRow = x.make(2, 0, three, three, last);
        return new int[] {x.make(1, 0, row, last, any), x.make(1, 0, any, row, last), x.make(1, 0, three, any, lastRow)};
    }

    private static void looked(List<Integer> want, int place, int field) {
        for (int i = 0; i < 3; i++) {
            int inner = 5 * place + i + 1;
            if (i == field) {
                for (int j = 0; j < 3; j++) addThree(want, 5 * inner + j + 1);
            } else if (i == (field + 1) % 3) {
                addThree(want, inner);
            }
        }
    }

    private static void addThree(List<Integer> want, int place) {
        for (int view = 0; view < 3; view++) want.add(100000 * view + 10 * place);
    }

    /** What a view gives is kept up to the end of the run: the next one runs it anew, ahead of others. */
    private static void viewsByEachRun() {
        Patternforge x = new Patternforge();
        int any = x.any(), low = x.range(0, 4);
        x.setView(0, 1, 5, 0, 10);
        x.begin(2, NUMBER, NUMBER, 0);
        x.add(x.view(0, low), x.view(0, low), NONE, 1);
        x.add(any, x.view(0, low), NONE, 2);
        x.add(x.view(0, any), x.view(0, any), NONE, 3);
        int two = x.num(2), seven = x.num(7);
        // 2 and 7: 2; then 7 + 5 by 10. 7 and 2: 7, and the second case runs 2 + 5; the third one none.
        int[][] all = {{two, seven, 1, 12, 22}, {seven, two, 3, 17, 27}, {two, two, 3, 12, 27}, {seven, seven, 2, 17, 22},
            {two, seven, 1, 12, 22}};
        for (int[] row : all) {
            for (int engine = 0; engine < 4; engine++) {
                int e = engine;
                String what = row[0] + " " + row[1] + " by " + e;
                due.is("P19 " + what, () -> x.run(e, row[0], row[1], NONE), row[2]);
                due.is("P21 " + what, () -> x.views(), 2);
                due.is("P22 the first one, " + what, () -> x.viewAt(0), row[3]);
                due.is("P22 the second one, " + what, () -> x.viewAt(1), row[4]);
            }
        }
    }

    /** 100000 times the view, 10 times its place, and the number that it gave: up to 204689. */
    private static void viewsAtTheDeepestPlaces() {
        Patternforge x = new Patternforge();
        for (int t = 0; t < 3; t++) x.constructor(t, 3, NUMBER, NUMBER, t < 2 ? t + 1 : NUMBER);
        int any = x.any(), seen = x.view(2, x.range(9, 9)), pattern = x.name(5, seen);
        for (int t = 2; t >= 0; t--) pattern = x.make(t, 0, any, any, pattern);
        int zero = x.num(0), value = x.num(9);
        for (int t = 2; t >= 0; t--) value = x.data(t, 0, zero, zero, value);
        x.begin(3, NUMBER, NUMBER, 0);
        x.add(any, any, pattern, 1);
        for (int engine = 0; engine < 4; engine++) {
            int e = engine, v = value;
            due.is("P19 by " + e, () -> x.run(e, zero, zero, v), 1);
            due.is("P22 by " + e, () -> x.viewAt(0), 204689);
            due.is("P23 by " + e, () -> x.bound(5), 468);
        }
    }

    // ---- promises 23 and 24

    /** A name that the case which is taken does not bind is not bound, though cases ahead of it came to it. */
    private static void namesOfOtherCases() {
        Patternforge x = withTypes();
        x.constructor(0, 2, 1, 1, 0);
        int any = x.any(), zero = x.make(1, 0, NONE, NONE, NONE);
        int[] n = new int[6];
        for (int i = 0; i < 6; i++) n[i] = x.name(i, any);
        x.begin(2, 0, NUMBER, 0);
        x.add(x.make(0, 1, n[0], n[1], NONE), x.name(2, x.range(0, 4)), NONE, 1);
        x.add(x.make(0, 1, x.name(3, zero), n[4], NONE), n[1], NONE, 2);
        x.add(x.make(0, 1, n[5], x.name(4, zero), NONE), any, NONE, 3);
        x.guard(0, Patternforge.SAME, 2, 1);
        for (int i = 0; i < 10; i++) x.num(i);
        int z = x.data(1, 0, NONE, NONE, NONE), o = x.data(1, 1, NONE, NONE, NONE);
        // Both fields, the second column, the result, and the places of the six names.
        int[][] all = {
            {o, o, 1, 1, 6, 7, 2, NONE, NONE, NONE}, {z, o, 2, 2, NONE, 2, NONE, 6, 7, NONE},
            {o, z, 7, 3, NONE, NONE, NONE, NONE, 7, 6}, {o, o, 7, -1, NONE, NONE, NONE, NONE, NONE, NONE},
            {o, o, 2, -1, NONE, NONE, NONE, NONE, NONE, NONE}, {z, z, 9, 2, NONE, 2, NONE, 6, 7, NONE},
        };
        for (int[] row : all) {
            int value = x.data(0, 1, row[0], row[1], NONE);
            for (int engine = 0; engine < 4; engine++) {
                int e = engine;
                String what = row[0] + " " + row[1] + " " + row[2] + " by " + e;
                due.is("P19 " + what, () -> x.run(e, value, row[2], NONE), row[3]);
                for (int i = 0; i < 6; i++) {
                    int name = i;
                    due.is("P23 name " + i + ", " + what, () -> x.bound(name), row[4 + name]);
                }
            }
        }
    }

    /** A name that the first alternative came to, and that the second one binds elsewhere. */
    private static void namesOfTheFirstAlternative() {
        Patternforge x = withTypes();
        x.constructor(0, 3, 1, 1, 1);
        int any = x.any(), zero = x.make(1, 0, NONE, NONE, NONE), one = x.make(1, 1, NONE, NONE, NONE);
        int a = x.name(0, any), b = x.name(1, any);
        int first = x.make(0, 1, a, b, zero), second = x.make(0, 1, b, one, a), third = x.make(0, 1, zero, a, b);
        x.begin(1, 0, 0, 0);
        x.add(x.either(first, x.either(second, third)), NONE, NONE, 1);
        int z = x.data(1, 0, NONE, NONE, NONE), o = x.data(1, 1, NONE, NONE, NONE);
        int[][] all = {{o, o, z, 6, 7}, {o, o, o, 8, 6}, {z, z, o, 7, 8}, {o, z, o, NONE, NONE}};
        for (int[] row : all) {
            int value = x.data(0, 1, row[0], row[1], row[2]);
            for (int engine = 0; engine < 4; engine++) {
                int e = engine;
                String what = row[0] + " " + row[1] + " " + row[2] + " by " + e;
                due.is("P19 " + what, () -> x.run(e, value, NONE, NONE), row[3] == NONE ? -1 : 1);
                due.is("P23 name 0, " + what, () -> x.bound(0), row[3]);
                due.is("P23 name 1, " + what, () -> x.bound(1), row[4]);
            }
        }
    }

    /** Names of the case that was RAISED are told; those of a run that was MISSED are not. */
    private static void namesOfRaised() {
        Patternforge x = new Patternforge();
        int any = x.any();
        x.begin(3, NUMBER, NUMBER, NUMBER);
        x.add(x.name(0, any), x.name(1, x.range(0, 4)), x.name(2, any), 1);
        x.add(x.name(3, any), x.name(4, any), x.name(5, any), 2);
        x.guard(0, Patternforge.RAISES, 2, 6);
        x.guard(1, Patternforge.LESS, 4, 9);
        int two = x.num(2), six = x.num(6), nine = x.num(9);
        int[][] all = {{two, six, -2, 1, 2, 3, NONE, NONE, NONE}, {six, six, 2, NONE, NONE, NONE, 1, 2, 3},
            {nine, six, -1, NONE, NONE, NONE, NONE, NONE, NONE}, {two, nine, 1, 1, 2, 3, NONE, NONE, NONE}};
        for (int[] row : all) {
            for (int engine = 0; engine < 4; engine++) {
                int e = engine;
                due.is("P19 by " + e, () -> x.run(e, two, row[0], row[1]), row[2]);
                for (int i = 0; i < 6; i++) {
                    int name = i;
                    due.is("P23 name " + i + " by " + e, () -> x.bound(name), row[3 + name]);
                }
            }
        }
    }

    /** How often a case was taken, by all engines. */
    private static void fiveHundredRuns() {
        Patternforge x = new Patternforge();
        int named = x.name(0, x.any()), three = x.num(3), four = x.num(4);
        x.begin(1, NUMBER, 0, 0);
        x.add(named, NONE, NONE, 1);
        x.guard(0, Patternforge.RAISES, 0, 4);
        for (int i = 0; i < 500; i++) x.run(i % 4, i % 5 == 4 ? four : three, NONE, NONE);
        due.is("P24 400 of 500", () -> x.taken(0), 400);
    }

    /** An object is used for at most 512 calls: the last one is answered too. */
    private static void fiveHundredAndTwelveCalls() {
        Patternforge x = new Patternforge();
        int pattern = x.name(0, x.view(1, x.any()));
        int value = x.num(7);
        x.begin(1, NUMBER, 0, 0);
        x.add(pattern, NONE, NONE, 6);
        // Six calls up to here.
        for (int i = 7; i < 510; i++) {
            int call = i;
            due.is("P19 call " + i, () -> x.run(call % 4, value, NONE, NONE), 6);
        }
        due.is("P22 call 510", () -> x.viewAt(0), 100017);
        due.is("P25 call 511", () -> x.size(FIRST, false), 11);
        due.is("P24 call 512", () -> x.taken(0), 503);
        Patternforge refusing = new Patternforge();
        for (int i = 1; i < 512; i++) {
            due.fails(Due.ARGUMENT, "P3 refused call " + i, () -> refusing.num(10));
        }
        due.is("P3 the first one that is not refused", () -> refusing.num(9), 0);
    }

    // ---- promise 25

    /** A leaf, a guard, a view, or what is asked at a place may be the root of a tree. */
    private static void rootsOfTrees() {
        Patternforge x = withTypes();
        int any = x.any(), name = x.name(0, any);
        x.setView(0, 1, 0, 0, 3);
        x.begin(1, NUMBER, 0, 0);
        sizes(x, "MISSED", 1, 1, 1, 1);
        x.add(name, NONE, NONE, 0);
        sizes(x, "a case", 1, 1, 1, 1);
        x.guard(0, Patternforge.LESS, 0, 5);
        sizes(x, "a guard", 3, 3, 3, 3);
        x.guard(0, Patternforge.RAISES, 0, 5);
        sizes(x, "a guard that raises", 3, 3, 3, 3);
        x.begin(1, 2, 0, 0);
        x.add(x.view(0, any), NONE, NONE, 0);
        sizes(x, "a view", 4, 2, 4, 2);
        x.begin(1, 2, 0, 0);
        x.add(x.make(2, 1, NONE, NONE, NONE), NONE, NONE, 0);
        sizes(x, "a constructor", 4, 3, 4, 3);
    }

    /** A node for each constructor of the type, for each number, for each length 0 to 3, or 0 to m - 1. */
    private static void widthsOfTrees() {
        Patternforge x = withTypes();
        int any = x.any();
        for (int t = 0; t < 4; t++) {
            x.begin(1, t, 0, 0);
            x.add(x.make(t, 0, NONE, NONE, NONE), NONE, NONE, 0);
            sizes(x, (t + 1) + " constructors", t + 2, t == 0 ? 1 : 3, t + 2, t == 0 ? 1 : 3);
            int missing = t;
            due.is("P26 constructors", () -> x.missing(), missing);
        }
        x.begin(1, NUMBER, 0, 0);
        x.add(x.range(0, 0), NONE, NONE, 0);
        sizes(x, "numbers", 11, 3, 11, 3);
        due.is("P26 numbers", () -> x.missing(), 9);
        for (int many = 0; many <= 2; many++) {
            for (int rest = 0; rest <= 2; rest++) {
                x.begin(1, SEQUENCE, 0, 0);
                x.add(x.list(many, many > 0 ? any : NONE, many > 1 ? any : NONE, rest), NONE, NONE, 0);
                int all = rest > 0 && many == 0 ? 1 : 3, missing = rest == 0 ? 3 : many;
                sizes(x, "lengths " + many + " " + rest, 5, all, 5, all);
                due.is("P26 lengths " + many + " " + rest, () -> x.missing(), missing);
            }
        }
        int seen = x.view(2, x.range(0, 0));
        x.begin(1, 3, 0, 0);
        x.add(seen, NONE, NONE, 0);
        for (int m = 1; m <= 10; m++) {
            x.setView(2, 0, 0, 0, m);
            int shared = m == 1 ? 2 : 3, missing = m - 1;
            sizes(x, m + " numbers of a view", 1 + m, shared, 1 + m, shared);
            due.is("P26 numbers of a view", () -> x.missing(), missing);
        }
    }

    /** What is asked of a tree stays the same, in whatever order it is asked, and across runs. */
    private static void sizesAskedByTurns() {
        Patternforge x = Standing.RICH.make(), y = Standing.RICH.make();
        int shared = x.size(FIRST, true), all = x.size(FIRST, false);
        due.is("P25 all first", () -> y.size(FIRST, false), all);
        due.is("P25 shared behind that", () -> y.size(FIRST, true), shared);
        for (int i = 0; i < 3; i++) {
            due.is("P25 shared again", () -> x.size(FIRST, true), shared);
            due.is("P19 a run between", () -> x.run(FIRST, Standing.EIGHT, Standing.NIL, NONE), 9);
            due.is("P25 all again", () -> x.size(FIRST, false), all);
            due.is("P26 again", () -> x.missing(), 100);
            due.is("P27 again", () -> x.example(11), 9);
            due.is("P28 again", () -> x.isUsed(2), false);
            due.is("P19 a run by MOST between", () -> x.run(MOST, Standing.EIGHT, Standing.NIL, NONE), 9);
            due.is("P25 MOST", () -> x.size(MOST, true), shared);
        }
    }

    /** From the leaves upwards: a node is replaced when those behind it were, until all is one leaf. */
    private static void replacedUpwards() {
        Patternforge x = new Patternforge();
        x.constructor(0, 2, NUMBER, SEQUENCE, 0);
        x.constructor(0, 0, 0, 0, 0);
        int any = x.any(), all = x.range(0, 9), open = x.list(0, NONE, NONE, Patternforge.AT_END);
        int one = x.make(0, 0, all, open, NONE), two = x.make(0, 1, NONE, NONE, NONE);
        x.begin(1, 0, 0, 0);
        x.add(x.either(one, two), NONE, NONE, 1);
        sizes(x, "all is one leaf", 1 + (1 + 10 * 5) + 1, 1, 1 + (1 + 10 * 5) + 1, 1);
        due.is("P26 nothing", () -> x.missing(), 0);
        x.begin(1, 0, 0, 0);
        x.add(one, NONE, NONE, 1);
        sizes(x, "all but the root", 1 + (1 + 10 * 5) + 1, 3, 1 + (1 + 10 * 5) + 1, 3);
        x.begin(1, 0, 0, 0);
        x.add(x.make(0, 0, x.range(0, 8), open, NONE), NONE, NONE, 1);
        x.add(any, NONE, NONE, 2);
        sizes(x, "all but two", 1 + (1 + 9 * 5 + 1) + 1, 4, 1 + (1 + 9 * 5 + 1) + 1, 4);
        replacedByTheOnlyOne();
    }

    /** A node with one behind it is replaced by that one, and is not the same as another such node. */
    private static void replacedByTheOnlyOne() {
        Patternforge x = withTypes();
        int only = x.make(0, 0, NONE, NONE, NONE);
        x.begin(2, 1, 0, 0);
        x.add(x.make(1, 0, NONE, NONE, NONE), only, NONE, 1);
        x.add(x.make(1, 1, NONE, NONE, NONE), only, NONE, 2);
        // Place 1, and behind both of its constructors place 2 with one leaf.
        sizes(x, "two of one constructor", 5, 3, 5, 3);
        x.begin(3, 0, 0, 0);
        x.add(only, only, only, 1);
        sizes(x, "three in a row", 4, 1, 4, 1);
    }

    /** Views and guards are not replaced, though all behind them are the same one. */
    private static void notReplaced() {
        Patternforge x = new Patternforge();
        int any = x.any(), seen = x.view(1, any), name = x.name(0, x.range(4, 5));
        x.setView(1, 1, 0, 0, 4);
        x.begin(2, NUMBER, NUMBER, 0);
        x.add(any, seen, NONE, 1);
        sizes(x, "a view", 5, 2, 5, 2);
        x.begin(2, NUMBER, NUMBER, 0);
        x.add(name, seen, NONE, 1);
        x.add(any, seen, NONE, 2);
        x.guard(0, Patternforge.MORE, 0, 4);
        // The number; the view at 2 (with, for 4 and 5, guards behind it); for the guard two leaves.
        sizes(x, "a guard in a view", 1 + 8 * 5 + 2 * (1 + 4 * 3), 1 + 2 + 1 + 2, 1 + 8 * 5 + 2 * (1 + 4 * 3), 6);
    }

    /** Nodes that ask the same, with the same ones behind them, in their order, are one; others are not. */
    private static void sameNodes() {
        Patternforge x = withTypes();
        int zero = x.make(1, 0, NONE, NONE, NONE), one = x.make(1, 1, NONE, NONE, NONE), any = x.any();
        x.setView(0, 1, 0, 0, 2);
        x.setView(1, 1, 0, 0, 2);
        int a = x.view(0, x.range(0, 0)), b = x.view(1, x.range(0, 0));
        x.begin(3, 1, 1, 1);
        x.add(zero, zero, any, 1);
        x.add(one, one, any, 1);
        // Place 2 behind both constructors at 1: a leaf of case 0 and MISSED; MISSED and a leaf of case 1.
        sizes(x, "unlike ones behind", 7, 6, 7, 6);
        x.begin(3, 1, 1, 1);
        x.add(zero, zero, any, 1);
        x.add(one, any, zero, 1);
        sizes(x, "unlike places", 7, 6, 7, 6);
        x.begin(3, 1, 1, 1);
        x.add(zero, zero, any, 1);
        x.add(one, x.either(one, zero), any, 1);
        sizes(x, "one is replaced", 7, 5, 7, 5);
        // Leaves of one case only, and MISSED: the order of what is behind is what tells nodes apart.
        x.begin(2, 1, 1, 0);
        x.add(x.either(zero, one), zero, NONE, 1);
        sizes(x, "the same nodes", 7, 3, 7, 3);
        x.begin(3, 1, 0, 0);
        x.add(zero, a, any, 1);
        x.add(one, any, a, 1);
        x.add(any, any, any, 2);
        sizes(x, "one view at two places", 7, 6, 7, 6);
        x.begin(2, 1, 0, 0);
        x.add(zero, a, NONE, 1);
        x.add(one, b, NONE, 1);
        x.add(any, any, NONE, 2);
        sizes(x, "two views at one place", 7, 6, 7, 6);
        int name = x.name(0, any);
        x.begin(2, 1, NUMBER, 0);
        x.add(zero, name, NONE, 1);
        x.add(one, name, NONE, 1);
        x.guard(0, Patternforge.LESS, 0, 5);
        x.guard(1, Patternforge.LESS, 0, 5);
        sizes(x, "guards of two cases", 7, 6, 7, 6);
        x.begin(2, 1, NUMBER, 0);
        x.add(x.either(zero, one), name, NONE, 1);
        x.guard(0, Patternforge.LESS, 0, 5);
        sizes(x, "the guard of one case", 7, 3, 7, 3);
    }

    /** Leaves are the same if they are of one case and both, or none, RAISED, or both are MISSED. */
    private static void leavesThatAreTheSame() {
        Patternforge x = withTypes();
        int any = x.any(), name = x.name(0, any);
        int zero = x.make(1, 0, NONE, NONE, NONE), one = x.make(1, 1, NONE, NONE, NONE);
        x.begin(2, 1, NUMBER, 0);
        x.add(x.either(zero, one), name, NONE, 1);
        x.guard(0, Patternforge.RAISES, 0, 5);
        // The guard has a leaf of the case and one RAISED behind it, for both constructors the same ones.
        sizes(x, "RAISED of one case", 7, 3, 7, 3);
        x.begin(2, 1, NUMBER, 0);
        x.add(zero, name, NONE, 1);
        x.add(one, name, NONE, 1);
        x.guard(0, Patternforge.RAISES, 0, 5);
        x.guard(1, Patternforge.RAISES, 0, 5);
        sizes(x, "RAISED of two cases", 7, 7, 7, 7);
        x.begin(2, 2, NUMBER, 0);
        int second = x.make(2, 0, NONE, NONE, NONE);
        x.add(second, name, NONE, 1);
        x.add(second, name, NONE, 1);
        x.guard(0, Patternforge.SAME, 0, 5);
        x.guard(1, Patternforge.SAME, 0, 5);
        // The root, two guards, a leaf of each, and MISSED behind the second guard and for two constructors.
        sizes(x, "MISSED thrice", 1 + 5 + 2, 6, 1 + 5 + 2, 6);
        due.is("P26 MISSED thrice", () -> x.missing(), 3);
    }

    /** The places come to without what is not known: in a constructor, range or list not known, that place. */
    private static void placesThatAreNeeded() {
        Patternforge x = new Patternforge();
        x.constructor(0, 2, NUMBER, 0, 0);
        x.constructor(0, 0, 0, 0, 0);
        x.constructor(1, 0, 0, 0, 0);
        x.constructor(1, 0, 0, 0, 0);
        int any = x.any(), zero = x.make(1, 0, NONE, NONE, NONE), low = x.range(0, 4);
        int cons = x.make(0, 0, low, any, NONE);
        // Behind place 1 not known there are two ranges; they do not count until it is known.
        x.begin(3, 0, 1, 1);
        x.add(cons, zero, any, 1);
        x.add(cons, any, zero, 2);
        x.add(any, zero, any, 3);
        // Place 1 by two, 2 by two: 1. For cons 6 by two (a number is none of its own), 2 by two: 2 is lower.
        int behindCons = 1 + (1 + 10) + (1 + 5 * 3 + 5);
        int behindNil = 1 + 2;
        due.is("P25 MOST by places", () -> x.size(MOST, false), 1 + behindCons + behindNil);
        // FIRST: 1; 6; for 0 to 4 there 2 and, for the second one there, 3; for 5 to 9 there 2.
        due.is("P25 FIRST by places", () -> x.size(FIRST, false), 1 + (1 + 5 * (1 + 1 + 3) + 5 * 3) + 3);
    }

    /** Of several places that as many cases need, the lowest one. */
    private static void tiesOfPlaces() {
        for (int low = 1; low <= 3; low++) {
            for (int high = low + 1; high <= 3; high++) {
                Patternforge x = withTypes();
                int any = x.any();
                int[] zero = new int[4];
                for (int t = 0; t < 4; t++) zero[t] = x.make(t, 0, NONE, NONE, NONE);
                int[] p = {any, any, any}, q = {any, any, any};
                p[high - 1] = zero[high];
                q[low - 1] = zero[low];
                // Type t stands at place t and has t + 1 constructors; FIRST asks the higher place.
                x.begin(3, 1, 2, 3);
                x.add(p[0], p[1], p[2], 1);
                x.add(q[0], q[1], q[2], 2);
                int l = low, h = high;
                String what = low + " and " + high;
                due.is("P25 FIRST, " + what, () -> x.size(FIRST, false), 1 + 1 + h * (l + 2));
                due.is("P25 MOST, " + what, () -> x.size(MOST, false), 1 + (l + 1) * (h + 2));
                x.add(p[0], p[1], p[2], 3);
                due.is("P25 MOST, the higher one twice, " + what, () -> x.size(MOST, false), 1 + 1 + h * (l + 2));
            }
        }
    }

    /** The cases counted are those whose guards did not fail, and that are not found to fail. */
    private static void casesThatCount() {
        Patternforge x = withTypes();
        int any = x.any(), name = x.name(0, any);
        int zero = x.make(1, 0, NONE, NONE, NONE), one = x.make(1, 1, NONE, NONE, NONE);
        int zero2 = x.make(2, 0, NONE, NONE, NONE);
        // Place 3 is needed by case 1, and by cases 2 and 3 behind a guard that is not asked yet; a case that
        // matches already needs nothing, one that is found to fail by place 1 does not count.
        x.begin(3, 1, 2, NUMBER);
        x.add(zero, any, name, 1);
        x.add(any, zero2, any, 2);
        x.add(one, zero2, any, 3);
        x.add(zero, zero2, any, 4);
        x.guard(0, Patternforge.LESS, 0, 5);
        // Place 1 by three, 2 by three: 1. For 0: the guard; then 2. For 1: 2.
        int behindZero = 2 + 1 + 3, behindOne = 1 + 3;
        due.is("P25 MOST, counted", () -> x.size(MOST, false), 1 + behindZero + behindOne);
        x.add(any, zero2, any, 5);
        // Place 2 by four. For 0 there the guard of case 0 behind place 1; for others place 1 and the guard.
        int known = 1 + 3 + 1, other = 1 + 3 + 1;
        due.is("P25 MOST, one more", () -> x.size(MOST, false), 1 + known + 2 * other);
    }

    /** A case is looked at up to the first thing that is not known: what fails behind that does not count. */
    private static void casesFoundToFailLater() {
        Patternforge x = withTypes();
        int any = x.any(), zero2 = x.make(2, 0, NONE, NONE, NONE), zero3 = x.make(3, 0, NONE, NONE, NONE);
        x.begin(3, 1, 2, 3);
        x.add(any, any, zero3, 1);
        x.add(x.make(1, 0, NONE, NONE, NONE), zero2, x.make(3, 1, NONE, NONE, NONE), 2);
        x.add(any, zero2, zero3, 3);
        // Both ask place 3. For all but the first one there, place 2 is needed by cases 1 and 2, though case
        // 2 fails by place 3, and place 1 by case 1: FIRST asks 1, and 2 behind it, MOST the other way.
        due.is("P25 FIRST, found to fail later", () -> x.size(FIRST, false), 1 + 1 + 3 * (1 + 2 * 4));
        due.is("P25 MOST, found to fail later", () -> x.size(MOST, false), 1 + 1 + 3 * (1 + 3 * 3));
    }

    /** A case needs the places each once, though two alternatives of it come to one. */
    private static void needsOnce() {
        Patternforge x = withTypes();
        int any = x.any(), both = x.either(x.make(2, 0, NONE, NONE, NONE), x.make(2, 1, NONE, NONE, NONE));
        x.begin(2, 1, 2, 0);
        x.add(any, both, NONE, 1);
        x.add(x.make(1, 0, NONE, NONE, NONE), any, NONE, 2);
        // Places 1 and 2 by one case each: FIRST asks 2, MOST the lowest one, and 2 behind it.
        due.is("P25 FIRST, once", () -> x.size(FIRST, false), 1 + 2 + 3);
        due.is("P25 MOST, once", () -> x.size(MOST, false), 1 + 2 * 4);
    }

    /** In a list at a place whose length is known, and is right, the patterns in it: the last ones AT_BEGIN. */
    private static void needsOfLists() {
        Patternforge x = new Patternforge();
        int zero = x.range(0, 0), one = x.range(1, 1);
        x.begin(1, SEQUENCE, 0, 0);
        x.add(x.list(1, zero, NONE, Patternforge.AT_END), NONE, NONE, 1);
        x.add(x.list(1, zero, NONE, Patternforge.AT_BEGIN), NONE, NONE, 2);
        x.add(x.list(1, one, NONE, Patternforge.AT_BEGIN), NONE, NONE, 3);
        // For a length of 1 place 6 alone. For 2 and 3 FIRST asks 6, and the last number for 1 to 9 there;
        // MOST asks the last number, which two cases need, and 6 for each.
        due.is("P25 FIRST, lists", () -> x.size(FIRST, false), 1 + 1 + 11 + 2 * (1 + 1 + 9 * 11));
        due.is("P25 MOST, lists", () -> x.size(MOST, false), 1 + 1 + 11 + 2 * (1 + 10 * 11));
    }

    /** In alternatives both are needed, whatever is known of the first one; in a view nothing. */
    private static void needsOfAlternatives() {
        Patternforge x = withTypes();
        int any = x.any();
        int zero = x.make(1, 0, NONE, NONE, NONE), zero2 = x.make(2, 0, NONE, NONE, NONE);
        x.setView(0, 1, 0, 0, 1);
        int seen = x.view(0, x.range(0, 0));
        x.begin(2, 1, 2, 0);
        x.add(zero, any, NONE, 1);
        x.add(any, x.either(any, zero2), NONE, 2);
        x.add(any, x.either(seen, zero2), NONE, 3);
        // Place 1 by one, 2 by two, though nothing of 2 is ever looked at by the plain order.
        sizes(x, "second alternatives", 3, 3, 1 + 3 * 3, 3);
        x.begin(2, 1, 2, 0);
        x.add(zero, any, NONE, 1);
        x.add(any, seen, NONE, 2);
        x.add(any, x.name(0, any), NONE, 3);
        due.is("P25 views and names need nothing", () -> x.size(MOST, false), 4);
    }

    // ---- promises 26 to 28

    /** How many leaves MISSED the tree FIRST has, not shared. */
    private static void missingByEachSort() {
        Patternforge x = withTypes();
        int any = x.any(), name = x.name(0, any);
        x.setView(0, 1, 0, 0, 6);
        int seen = x.view(0, x.range(0, 1));
        x.begin(2, 3, NUMBER, 0);
        due.is("P26 no case", () -> x.missing(), 1);
        x.add(x.make(3, 2, NONE, NONE, NONE), seen, NONE, 1);
        due.is("P26 three constructors, and four numbers of a view", () -> x.missing(), 7);
        x.add(any, x.range(0, 8), NONE, 2);
        due.is("P26 one number for each of these", () -> x.missing(), 7);
        x.add(any, name, NONE, 3);
        due.is("P26 nothing", () -> x.missing(), 0);
        x.guard(2, Patternforge.LESS, 0, 9);
        due.is("P26 each behind a guard", () -> x.missing(), 7);
        x.guard(2, Patternforge.RAISES, 0, 9);
        due.is("P26 raised is not missed", () -> x.missing(), 0);
    }

    /** Constructors, numbers, lengths and what views gave come by rising numbers. */
    private static void examplesByRisingNumbers() {
        Patternforge x = withTypes();
        int any = x.any();
        int[] c = new int[4];
        for (int i = 0; i < 4; i++) c[i] = x.make(3, i, NONE, NONE, NONE);
        for (int missing = 0; missing < 4; missing++) {
            x.begin(1, 3, 0, 0);
            for (int i = 0; i < 4; i++) if (i < missing) x.add(c[i], NONE, NONE, i);
            if (missing == 0) x.add(c[1], NONE, NONE, 1);
            int want = missing;
            due.is("P27 constructor " + missing, () -> x.example(1), want);
        }
        for (int missing = 0; missing < 10; missing++) {
            x.begin(2, 0, NUMBER, 0);
            x.add(any, missing == 0 ? x.range(1, 9) : x.range(0, missing - 1), NONE, 1);
            int want = missing;
            due.is("P27 number " + missing, () -> x.example(2), want);
            due.is("P27 nothing at place 1", () -> x.example(1), HOLE);
        }
        for (int missing = 0; missing < 4; missing++) {
            x.begin(1, SEQUENCE, 0, 0);
            for (int many = 0; many < missing; many++) {
                if (many < 2) x.add(x.list(many, many > 0 ? any : NONE, NONE, Patternforge.NO_REST), NONE, NONE, 1);
                if (many == 2) x.add(x.list(2, any, any, Patternforge.NO_REST), NONE, NONE, 1);
            }
            if (missing == 0) x.add(x.list(1, any, NONE, Patternforge.AT_END), NONE, NONE, 1);
            int want = missing;
            due.is("P27 length " + missing, () -> x.example(1), want);
        }
        x.setView(1, 1, 0, 0, 3);
        x.begin(2, NUMBER, NUMBER, 0);
        x.add(x.view(1, x.range(1, 1)), x.range(3, 5), NONE, 1);
        x.add(any, x.range(0, 6), NONE, 2);
        due.is("P27 0 of a view, and 7", () -> x.example(2), 7);
        due.is("P27 what a view gave is told of no place", () -> x.example(1), HOLE);
        for (int place : new int[] {0, 3, -1, 11, 12, 468, TOP, LOW}) {
            due.is("P27 nothing at " + place, () -> x.example(place), HOLE);
        }
    }

    /** What comes behind a guard that held comes ahead of that behind one that failed. */
    private static void examplesBehindGuards() {
        Patternforge x = new Patternforge();
        int any = x.any(), name = x.name(0, any);
        x.begin(2, NUMBER, NUMBER, 0);
        x.add(name, x.range(2, 9), NONE, 1);
        x.add(x.range(0, 6), any, NONE, 2);
        x.guard(0, Patternforge.MORE, 0, 5);
        // Place 2 is 0: place 1 is 7. Place 2 is 2: a leaf, and behind the guard that failed place 1 is 7.
        due.is("P27 ahead of all guards", () -> x.example(2), 0);
        due.is("P27 the first number there", () -> x.example(1), 7);
        x.add(any, x.range(0, 1), NONE, 3);
        due.is("P27 behind the guard that failed", () -> x.example(2), 2);
        due.is("P27 the first number there", () -> x.example(1), 7);
        due.is("P26 three numbers behind each of eight guards", () -> x.missing(), 24);
    }

    /** If the root is MISSED, nothing is known at any place. */
    private static void exampleOfTheRoot() {
        Patternforge x = new Patternforge();
        x.begin(3, NUMBER, SEQUENCE, 0);
        for (int place : new int[] {1, 2, 3, 0, -1, 6, 11, 16, 468, 469, TOP, LOW}) {
            due.is("P27 example(" + place + ") of no cases", () -> x.example(place), HOLE);
        }
        x.add(x.any(), x.any(), x.any(), 1);
        due.fails(Due.STATE, "P27 no such leaf", () -> x.example(1));
    }

    /** Whether the tree FIRST has a leaf of it: by each change anew. */
    private static void usedFollowsChanges() {
        Patternforge x = withTypes();
        int any = x.any(), name = x.name(0, any), low = x.range(0, 4), high = x.range(5, 9);
        x.setView(0, 1, 0, 0, 5);
        int seen = x.view(0, x.range(0, 4));
        x.begin(2, NUMBER, 0, 0);
        x.add(name, seen, NONE, 1);
        x.add(low, any, NONE, 2);
        x.add(high, any, NONE, 3);
        used(x, "all by the view", true, false, false);
        x.setView(0, 1, 0, 0, 6);
        used(x, "not all by the view", true, true, true);
        x.setView(0, 1, 0, 0, 5);
        used(x, "all by the view again", true, false, false);
        x.guard(0, Patternforge.LESS, 0, 9);
        used(x, "with a guard", true, true, true);
        x.guard(0, Patternforge.RAISES, 0, 9);
        used(x, "with a guard that raises", true, false, false);
        x.guard(0, NONE, 0, 0);
        used(x, "without a guard", true, false, false);
        x.begin(2, NUMBER, 0, 0);
        used(x, "no cases");
        int both = x.either(low, high);
        x.add(both, any, NONE, 1);
        x.add(both, any, NONE, 1);
        used(x, "twice the same", true, false);
        x.split(1, 0);
        used(x, "the second one split", true, false, false);
        x.split(0, 0);
        used(x, "both split", true, true, false, false);
        x.merge(1, 0);
        used(x, "the second alternative and one that is not used", true, true, false);
        x.merge(1, 0);
        used(x, "and another one", true, true);
    }

    private static void used(Patternforge x, String what, boolean... want) {
        for (int i = 0; i < want.length; i++) {
            int number = i;
            due.is("P28 " + what + ", case " + i, () -> x.isUsed(number), want[i]);
        }
        due.fails(Due.INDEX, "P28 " + what + ", no such case", () -> x.isUsed(want.length));
    }

    /** A guard that never holds, or always raises, has leaves of its case all the same. */
    private static void usedByRaisedAndGuards() {
        Patternforge x = new Patternforge();
        int any = x.any(), three = x.name(0, x.range(3, 3));
        x.begin(1, NUMBER, 0, 0);
        x.add(three, NONE, NONE, 1);
        x.add(three, NONE, NONE, 2);
        x.add(x.range(3, 3), NONE, NONE, 3);
        x.add(any, NONE, NONE, 4);
        x.add(any, NONE, NONE, 5);
        used(x, "3 thrice", true, false, false, true, false);
        x.guard(0, Patternforge.RAISES, 0, 3);
        used(x, "it always raises", true, false, false, true, false);
        x.guard(0, Patternforge.LESS, 0, 0);
        used(x, "it never holds", true, true, false, true, false);
        x.guard(1, Patternforge.MORE, 0, 9);
        used(x, "nor does the second one", true, true, true, true, false);
        x.guard(0, Patternforge.SAME, 0, 3);
        used(x, "it always holds, and may fail", true, true, true, true, false);
    }
}
