/** Promises 19 to 24: runs, and what is told of them. */
public final class RunsTest {
    private static final int NONE = Patternforge.NONE;
    private static final int NUMBER = Patternforge.NUMBER;
    private static final int SEQUENCE = Patternforge.SEQUENCE;
    private static final int TOP = Integer.MAX_VALUE, LOW = Integer.MIN_VALUE;

    private static final Due due = new Due("RunsTest");

    public static void main(String[] args) {
        wrongRuns();
        order();
        noWayBack();
        tests();
        testsOfTrees();
        views();
        viewsOnce();
        alternativesInViews();
        firstValues();
        bound();
        taken();
        tooLarge();
        due.end();
    }

    private static void wrongRuns() {
        Patternforge x = new Patternforge();
        x.num(1);
        x.seq(0, 0, 0, 0);
        due.fails(Due.STATE, "P19 without a match", () -> x.run(3, NONE, NONE, NONE));
        due.fails(Due.ARGUMENT, "P19 a value, without a match", () -> x.run(0, 0, NONE, NONE));
        due.fails(Due.ARGUMENT, "P19 no such value, without a match", () -> x.run(0, NONE, NONE, 9));
        due.fails(Due.INDEX, "P19 no such engine, without a match", () -> x.run(4, 0, NONE, NONE));
        x.begin(2, NUMBER, SEQUENCE, 0);
        int any = x.any();
        x.add(x.name(0, any), x.view(1, any), NONE, 5);
        x.run(0, 0, 1, NONE);
        for (int wrong : new int[] {-1, 4, TOP, LOW}) {
            due.fails(Due.INDEX, "P19 engine " + wrong, () -> x.run(wrong, 1, 0, 0));
        }
        for (int engine = 0; engine < 4; engine++) {
            int e = engine;
            for (int wrong : new int[] {-1, 2, TOP, LOW}) {
                due.fails(Due.INDEX, "P19 first " + wrong, () -> x.run(e, wrong, 0, 0));
                due.fails(Due.INDEX, "P19 second " + wrong, () -> x.run(e, 1, wrong, 0));
                if (wrong != NONE) {
                    due.fails(Due.ARGUMENT, "P19 no third, and " + wrong, () -> x.run(e, 0, 1, wrong));
                }
            }
            due.fails(Due.ARGUMENT, "P19 a sequence for a number", () -> x.run(e, 1, 1, NONE));
            due.fails(Due.ARGUMENT, "P19 a number for a sequence", () -> x.run(e, 0, 0, NONE));
        }
        due.is("P19 the latest run stands: its views", () -> x.views(), 1);
        due.is("P19 its names", () -> x.bound(0), 1);
        due.is("P19 what was taken", () -> x.taken(0), 1);
    }

    /** Cases by their order, columns by their order, for all engines. */
    private static void order() {
        Patternforge x = new Patternforge();
        int any = x.any(), low = x.range(0, 4), high = x.range(5, 9);
        x.begin(3, NUMBER, NUMBER, NUMBER);
        x.add(low, high, low, 1);
        x.add(low, any, any, 2);
        x.add(any, any, low, 3);
        x.num(2);
        x.num(7);
        int[] want = {2, 2, 1, 2, 3, -1, 3, -1};
        for (int i = 0; i < 8; i++) {
            for (int engine = 0; engine < 2; engine++) {
                int e = engine, a = i / 4, b = i / 2 % 2, c = i % 2;
                due.is("P19 " + a + " " + b + " " + c + " by " + e, () -> x.run(e, a, b, c), want[i]);
            }
        }
        x.begin(1, NUMBER, 0, 0);
        due.is("P19 no cases", () -> x.run(0, 0, NONE, NONE), -1);
        x.add(any, NONE, NONE, 0);
        x.add(any, NONE, NONE, 99);
        for (int engine = 0; engine < 4; engine++) {
            int e = engine;
            due.is("P19 the first one of two", () -> x.run(e, 1, NONE, NONE), 0);
        }
    }

    /** What comes later does not lead back to the second alternative. */
    private static void noWayBack() {
        Patternforge x = new Patternforge();
        x.constructor(0, 2, NUMBER, NUMBER, 0);
        int any = x.any(), low = x.range(0, 4), name = x.name(0, any);
        int one = x.make(0, 0, name, any, NONE);
        int two = x.make(0, 0, any, name, NONE);
        int both = x.either(one, two);
        x.begin(2, 0, NUMBER, 0);
        x.add(both, low, NONE, 1);
        x.add(both, any, NONE, 2);
        x.guard(1, Patternforge.SAME, 0, 8);
        x.num(3);
        x.num(8);
        x.data(0, 0, 0, 1, NONE);
        x.data(0, 0, 1, 0, NONE);
        int[][] want = {{1, 1}, {-1, 2}};
        for (int engine = 0; engine < 4; engine++) {
            for (int i = 0; i < 2; i++) {
                int e = engine, v = 2 + i;
                due.is("P19 low by " + e, () -> x.run(e, v, 0, NONE), want[0][i]);
                due.is("P19 the first field", () -> x.bound(0), 6);
                due.is("P19 the guard holds of the first one only, by " + e, () -> x.run(e, v, 1, NONE), want[1][i]);
            }
        }
    }

    private static void tests() {
        Patternforge x = new Patternforge();
        x.constructor(0, 2, SEQUENCE, NUMBER, 0);
        x.constructor(0, 0, 0, 0, 0);
        int any = x.any(), low = x.range(0, 4), high = x.range(5, 9);
        int open = x.list(0, NONE, NONE, Patternforge.AT_END);
        int ends = x.list(2, low, high, Patternforge.AT_BEGIN);
        x.begin(1, 0, 0, 0);
        x.num(7);
        x.seq(3, 9, 1, 7);
        x.seq(1, 1, 0, 0);
        x.data(0, 0, 1, 0, NONE);
        x.data(0, 1, NONE, NONE, NONE);
        x.data(0, 0, 2, 0, NONE);
        x.add(x.make(0, 0, ends, x.either(low, high), NONE), NONE, NONE, 1);
        x.add(x.make(0, 0, open, any, NONE), NONE, NONE, 2);
        x.add(x.either(x.make(0, 1, NONE, NONE, NONE), any), NONE, NONE, 3);
        // The constructor, the length, 1 and 7; then 7 against both ranges.
        told(x, "P20 all of the first case", 3, 1, 6);
        // The constructor three times; the third case asks its second alternative no test.
        told(x, "P20 the third case", 4, 3, 3);
        // The constructor and the length of each of the first cases.
        told(x, "P20 the second case", 5, 2, 4);
        x.begin(2, NUMBER, NUMBER, 0);
        due.is("P20 none after begin", () -> x.tests(), 0);
        x.add(any, any, NONE, 1);
        x.run(0, 0, 0, NONE);
        due.is("P20 none for any", () -> x.tests(), 0);
    }

    private static void told(Patternforge x, String call, int value, int result, int tests) {
        for (int engine = 0; engine < 2; engine++) {
            int e = engine;
            due.is(call + " by " + e, () -> x.run(e, value, NONE, NONE), result);
            due.is(call + ", tests by " + e, () -> x.tests(), tests);
        }
    }

    private static void testsOfTrees() {
        Patternforge x = new Patternforge();
        int any = x.any(), low = x.range(0, 4), high = x.range(5, 9);
        x.setView(0, 1, 0, 0, 2);
        int seen = x.view(0, x.range(1, 1));
        int seenToo = x.view(0, any);
        x.begin(2, NUMBER, NUMBER, 0);
        x.add(low, any, NONE, 1);
        x.add(high, seen, NONE, 2);
        x.add(x.range(5, 5), seenToo, NONE, 3);
        x.num(3);
        x.num(5);
        x.num(6);
        int[][] runs = {{0, 0, 1, 1, 1}, {1, 0, 2, 3, 2}, {1, 2, 3, 5 - 1, 2}, {2, 2, -1, 5 - 1, 2}};
        for (int[] run : runs) {
            for (int engine = 0; engine < 4; engine++) {
                int e = engine;
                due.is("P20 by " + e, () -> x.run(e, run[0], run[1], NONE), run[2]);
                due.is("P20 tests by " + e, () -> x.tests(), run[e < 2 ? 3 : 4]);
            }
        }
    }

    private static void views() {
        Patternforge x = new Patternforge();
        x.constructor(0, 3, NUMBER, SEQUENCE, 0);
        x.constructor(0, 0, 0, 0, 0);
        int any = x.any();
        x.setView(0, 1, 1, 0, 10);
        x.setView(1, 2, -3, 1, 7);
        x.setView(2, 0, 9, 5, 3);
        int zero = x.view(0, any), one = x.view(1, any), two = x.view(2, any);
        int list = x.list(2, two, one, Patternforge.AT_BEGIN);
        int inner = x.make(0, 0, zero, list, two);
        x.begin(2, 0, NUMBER, 0);
        x.add(x.make(0, 0, any, any, inner), zero, NONE, 1);
        x.num(6);
        x.seq(3, 1, 2, 3);
        x.data(0, 1, NONE, NONE, NONE);
        x.data(0, 0, 0, 1, 2);
        x.data(0, 0, 0, 1, 3);
        // Place 1, its third field 8, and in that 41, 42 (with 212 and 213 in it) and 43.
        int measure = 0;
        int[] want = {
            410 + 6,
            200000 + 2120 + (9 + 5) % 3,
            100000 + 2130 + ((2 * 3 - 6 + 1) % 7 + 7) % 7,
            200000 + 430 + (27 + 5) % 3,
            20 + (6 + 4) % 10 + measure,
        };
        for (int engine = 0; engine < 2; engine++) {
            int e = engine;
            due.is("P21 a run by " + e, () -> x.run(e, 4, 0, NONE), 1);
            due.is("P21 views by " + e, () -> x.views(), 5);
            for (int i = 0; i < 5; i++) {
                int index = i;
                due.is("P22 viewAt(" + i + ") by " + e, () -> x.viewAt(index), want[i]);
            }
            for (int wrong : new int[] {-1, 5, TOP, LOW}) {
                due.fails(Due.INDEX, "P22 viewAt(" + wrong + ")", () -> x.viewAt(wrong));
            }
        }
        x.run(0, 2, 0, NONE);
        due.is("P21 none in the next run", () -> x.views(), 0);
        due.fails(Due.INDEX, "P22 none in the next run", () -> x.viewAt(0));
    }

    /** A view is run once at a place, in the same order by each engine, also where a case fails. */
    private static void viewsOnce() {
        Patternforge x = new Patternforge();
        int any = x.any(), high = x.range(1, 9);
        x.setView(0, 1, 0, 0, 2);
        x.setView(1, 1, 1, 0, 3);
        int zero = x.view(0, high), one = x.view(1, high), both = x.view(1, any);
        x.begin(2, NUMBER, NUMBER, 0);
        x.add(zero, one, NONE, 1);
        x.add(one, zero, NONE, 2);
        x.add(x.either(zero, both), any, NONE, 3);
        for (int i = 0; i < 4; i++) x.num(i);
        for (int a = 0; a < 4; a++) {
            for (int b = 0; b < 4; b++) {
                int first = a, second = b;
                int result = x.run(0, a, b, NONE);
                int many = x.views();
                int[] all = new int[many];
                for (int i = 0; i < many; i++) all[i] = x.viewAt(i);
                for (int i = 0; i < many; i++) {
                    for (int j = 0; j < i; j++) due.holds("P22 once at a place", all[i] / 10 != all[j] / 10);
                }
                for (int engine = 1; engine < 4; engine++) {
                    int e = engine;
                    due.is("P19 by " + e, () -> x.run(e, first, second, NONE), result);
                    due.is("P21 by " + e, () -> x.views(), many);
                    for (int i = 0; i < many; i++) {
                        int index = i;
                        due.is("P22 by " + e, () -> x.viewAt(index), all[i]);
                    }
                }
            }
        }
        x.run(0, 0, 0, NONE);
        due.is("P21 0 and 0: views 0 and 1 at place 1, view 0 at place 2", () -> x.views(), 3);
        due.is("P22 the second one gives 0 + 1", () -> x.viewAt(1), 100011);
    }

    /** What a view gave is held against the first alternative, and then against the second one. */
    private static void alternativesInViews() {
        Patternforge x = new Patternforge();
        int any = x.any(), low = x.range(0, 2), high = x.range(7, 9), five = x.range(5, 5);
        int three = x.either(x.either(low, high), five);
        int loose = x.either(x.range(4, 4), any);
        x.begin(2, NUMBER, NUMBER, 0);
        x.add(x.view(0, three), x.view(1, loose), NONE, 1);
        x.add(any, x.view(1, x.either(any, low)), NONE, 2);
        int four = x.num(4);
        // Held against low; against low and high; and against all three.
        int[] tests = {1, 1, 1, 3, 3, 3, 3, 2, 2, 2};
        for (int i = 0; i < 10; i++) {
            int value = x.num(i), n = i;
            boolean fits = i < 3 || i > 6 || i == 5;
            for (int engine = 0; engine < 4; engine++) {
                int e = engine;
                due.is("P11 " + i + " by " + e, () -> x.run(e, value, four, NONE), fits ? 1 : 2);
                due.is("P20 " + i + " by " + e, () -> x.tests(), e < 2 ? tests[n] + (fits ? 1 : 0) : 2);
            }
            due.is("P20 " + i + " as the second value", () -> x.run(1, four, value, NONE), 2);
        }
        int two = x.num(2);
        for (int engine = 0; engine < 2; engine++) {
            int e = engine;
            due.is("P11 any behind 4", () -> x.run(e, two, two, NONE), 1);
            due.is("P20 any is no test", () -> x.tests(), 2);
        }
    }

    /** The first value of an object may be a sequence too. */
    private static void firstValues() {
        Patternforge x = new Patternforge();
        int any = x.any();
        int sequence = x.seq(2, 3, 8, 0);
        x.begin(1, SEQUENCE, 0, 0);
        x.add(x.list(2, x.range(3, 3), x.name(0, x.view(0, any)), Patternforge.NO_REST), NONE, NONE, 1);
        x.guard(0, Patternforge.SAME, 0, 8);
        for (int engine = 0; engine < 4; engine++) {
            int e = engine;
            due.is("P19 by " + e, () -> x.run(e, sequence, NONE, NONE), 1);
            due.is("P22 by " + e, () -> x.viewAt(0), 78);
            due.is("P23 by " + e, () -> x.bound(0), 7);
        }
    }

    private static void bound() {
        Patternforge x = new Patternforge();
        x.constructor(0, 2, SEQUENCE, NUMBER, 0);
        int any = x.any(), low = x.range(0, 4);
        int list = x.list(1, x.name(1, low), NONE, Patternforge.AT_BEGIN);
        int first = x.make(0, 0, x.name(0, list), any, NONE);
        int second = x.make(0, 0, x.list(0, NONE, NONE, Patternforge.NO_REST), x.name(0, x.name(1, any)), NONE);
        x.begin(1, 0, 0, 0);
        x.add(x.name(5, x.either(first, second)), NONE, NONE, 1);
        x.add(x.name(2, any), NONE, NONE, 2);
        x.guard(0, Patternforge.RAISES, 1, 3);
        x.seq(0, 0, 0, 0);
        x.seq(2, 9, 2, 0);
        x.seq(3, 9, 9, 3);
        x.seq(1, 8, 0, 0);
        x.num(6);
        for (int i = 0; i < 4; i++) x.data(0, 0, i, 4, NONE);
        int[][] want = {
            {1, 7, 7, NONE, NONE, NONE, 1}, {1, 6, 32, NONE, NONE, NONE, 1}, {-2, 6, 33, NONE, NONE, NONE, 1},
            {2, NONE, NONE, 1, NONE, NONE, NONE},
        };
        for (int i = 0; i < 4; i++) {
            for (int engine = 0; engine < 2; engine++) {
                int e = engine, v = 5 + i;
                due.is("P23 run by " + e, () -> x.run(e, v, NONE, NONE), want[i][0]);
                for (int j = 0; j < 6; j++) {
                    int name = j;
                    due.is("P23 bound(" + j + ") by " + e, () -> x.bound(name), want[i][j + 1]);
                }
            }
        }
        for (int wrong : new int[] {-1, 6, TOP, LOW}) {
            due.fails(Due.INDEX, "P23 bound(" + wrong + ")", () -> x.bound(wrong));
        }
        x.begin(1, NUMBER, 0, 0);
        x.add(x.name(3, low), NONE, NONE, 1);
        x.guard(0, Patternforge.LESS, 3, 2);
        int three = x.num(3);
        for (int engine = 0; engine < 4; engine++) {
            int e = engine;
            due.is("P23 a guard that fails, by " + e, () -> x.run(e, three, NONE, NONE), -1);
            due.is("P23 MISSED by " + e, () -> x.bound(3), NONE);
        }
    }

    private static void taken() {
        Patternforge x = new Patternforge();
        due.fails(Due.INDEX, "P24 without a match", () -> x.taken(0));
        int any = x.any();
        x.begin(1, NUMBER, 0, 0);
        x.add(x.name(0, x.range(2, 4)), NONE, NONE, 1);
        x.add(any, NONE, NONE, 2);
        x.guard(0, Patternforge.RAISES, 0, 3);
        for (int i = 0; i < 5; i++) x.num(i);
        for (int engine = 0; engine < 4; engine++) {
            for (int i = 0; i < 5; i++) x.run(engine, i, NONE, NONE);
        }
        due.is("P24 raised is not taken", () -> x.taken(0), 8);
        due.is("P24 the second case", () -> x.taken(1), 8);
        x.guard(0, NONE, 0, 0);
        due.is("P24 a guard does not change it", () -> x.taken(0), 8);
        x.add(any, NONE, NONE, 3);
        due.is("P24 a new case", () -> x.taken(2), 0);
        for (int wrong : new int[] {-1, 3, TOP, LOW}) {
            due.fails(Due.INDEX, "P24 taken(" + wrong + ")", () -> x.taken(wrong));
        }
        x.begin(1, NUMBER, 0, 0);
        x.add(any, NONE, NONE, 3);
        due.is("P24 of a new match", () -> x.taken(0), 0);
    }

    private static void tooLarge() {
        Patternforge x = new Patternforge();
        int low = x.range(0, 4);
        x.begin(3, NUMBER, NUMBER, NUMBER);
        x.add(low, low, low, 1);
        x.add(x.range(5, 9), low, low, 2);
        x.num(3);
        due.is("P19 plain", () -> x.run(0, 0, 0, 0), 1);
        due.is("P19 codes", () -> x.run(1, 0, 0, 0), 1);
        due.fails(Due.STATE, "P19 a tree that is TOO_LARGE", () -> x.run(2, 0, 0, 0));
        due.fails(Due.STATE, "P19 the other tree", () -> x.run(3, 0, 0, 0));
        due.fails(Due.ARGUMENT, "P19 a wrong value ahead of that", () -> x.run(3, 0, 0, x.seq(0, 0, 0, 0)));
        due.is("P24 not taken by that", () -> x.taken(0), 2);
        due.is("P20 the latest run stands", () -> x.tests(), 3);
    }
}
