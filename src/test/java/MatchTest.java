/** Promises 14 to 18: the match, its cases and guards, splitting and merging. */
public final class MatchTest {
    private static final int NONE = Patternforge.NONE;
    private static final int NUMBER = Patternforge.NUMBER;
    private static final int SEQUENCE = Patternforge.SEQUENCE;
    private static final int TOP = Integer.MAX_VALUE, LOW = Integer.MIN_VALUE;

    private static final Due due = new Due("MatchTest");

    public static void main(String[] args) {
        begin();
        addWithoutMatch();
        add();
        guard();
        guardOfKinds();
        guardOutcomes();
        split();
        splitKeeps();
        viewsWithin();
        merge();
        mergeLimits();
        splitAndMerge();
        due.end();
    }

    private static void begin() {
        Patternforge x = new Patternforge();
        for (int wrong : new int[] {0, 4, -1, TOP, LOW}) {
            due.fails(Due.ARGUMENT, "P14 columns " + wrong, () -> x.begin(wrong, 0, 0, 0));
        }
        for (int wrong : new int[] {-1, 6, TOP, LOW}) {
            due.fails(Due.ARGUMENT, "P14 first " + wrong, () -> x.begin(3, wrong, 0, 0));
            due.fails(Due.ARGUMENT, "P14 second " + wrong, () -> x.begin(3, 0, wrong, 0));
            due.fails(Due.ARGUMENT, "P14 third " + wrong, () -> x.begin(3, 0, 0, wrong));
        }
        due.fails(Due.ARGUMENT, "P14 a kind of no second column", () -> x.begin(1, 0, 1, 0));
        due.fails(Due.ARGUMENT, "P14 NONE for no third column", () -> x.begin(2, 0, 0, NONE));
        due.fails(Due.STATE, "P14 no match by that", () -> x.missing());
        due.is("P14 begin(3, 5, 4, 3)", () -> x.begin(3, SEQUENCE, NUMBER, 3), 0);
        int any = x.any();
        x.add(any, any, any, 1);
        x.add(any, any, any, 2);
        due.fails(Due.ARGUMENT, "P14 a wrong one", () -> x.begin(1, 6, 0, 0));
        due.is("P14 it stands after a wrong one", () -> x.taken(1), 0);
        due.is("P14 two cases before", () -> x.begin(1, NUMBER, 0, 0), 2);
        due.fails(Due.INDEX, "P14 no cases", () -> x.taken(0));
        x.add(x.name(0, x.view(1, any)), NONE, NONE, 3);
        int value = x.num(3);
        x.run(0, value, NONE, NONE);
        due.is("P14 a view was run", () -> x.views(), 1);
        due.is("P14 one case before", () -> x.begin(1, NUMBER, 0, 0), 1);
        due.is("P14 no tests", () -> x.tests(), 0);
        due.is("P14 no views", () -> x.views(), 0);
        due.fails(Due.INDEX, "P14 no view to tell of", () -> x.viewAt(0));
        due.is("P14 no names", () -> x.bound(0), NONE);
        due.is("P14 a match without cases", () -> x.run(1, value, NONE, NONE), -1);
    }

    private static void addWithoutMatch() {
        Patternforge x = new Patternforge();
        x.any();
        due.fails(Due.STATE, "P15 nothing, without a match", () -> x.add(NONE, NONE, NONE, 1));
        due.fails(Due.ARGUMENT, "P15 a wrong result, without a match", () -> x.add(NONE, NONE, NONE, 100));
        due.fails(Due.ARGUMENT, "P15 a pattern, without a match", () -> x.add(0, NONE, NONE, 1));
        due.fails(Due.ARGUMENT, "P15 no such pattern, without a match", () -> x.add(NONE, NONE, 7, 1));
    }

    private static void add() {
        Patternforge x = new Patternforge();
        int any = x.any();
        int low = x.range(0, 4);
        int list = x.list(1, low, NONE, 0);
        x.begin(2, NUMBER, SEQUENCE, 0);
        due.is("P15 the first case", () -> x.add(low, list, NONE, 0), 0);
        for (int wrong : new int[] {-1, 3, TOP, LOW}) {
            due.fails(Due.INDEX, "P15 first " + wrong, () -> x.add(wrong, low, NONE, 100));
            due.fails(Due.INDEX, "P15 second " + wrong, () -> x.add(list, wrong, NONE, 100));
            if (wrong != NONE) {
                due.fails(Due.ARGUMENT, "P15 no third, and " + wrong, () -> x.add(low, list, wrong, 0));
            }
        }
        for (int wrong : new int[] {-1, 100, TOP, LOW}) {
            due.fails(Due.ARGUMENT, "P15 result " + wrong, () -> x.add(low, list, NONE, wrong));
        }
        due.fails(Due.ARGUMENT, "P15 a list for a number", () -> x.add(list, list, NONE, 0));
        due.fails(Due.ARGUMENT, "P15 a range for a sequence", () -> x.add(low, low, NONE, 0));
        int named = x.name(0, any);
        int other = x.list(1, named, NONE, 0);
        due.fails(Due.ARGUMENT, "P15 a name twice", () -> x.add(named, named, NONE, 0));
        due.fails(Due.ARGUMENT, "P15 a name twice, within", () -> x.add(named, other, NONE, 0));
        for (int i = 1; i < 8; i++) {
            int n = i;
            due.is("P15 case " + n, () -> x.add(any, other, NONE, 99), n);
        }
        due.fails(Due.STATE, "P15 a case above 8", () -> x.add(any, any, NONE, 0));
        due.fails(Due.ARGUMENT, "P15 a wrong case above 8", () -> x.add(any, any, NONE, 100));
        due.is("P15 eight cases", () -> x.begin(3, 0, 0, 0), 8);
        due.fails(Due.ARGUMENT, "P15 a name in columns 1 and 3", () -> x.add(named, any, named, 0));
        due.fails(Due.INDEX, "P15 no third one", () -> x.add(any, any, NONE, 0));
    }

    private static void guard() {
        Patternforge x = new Patternforge();
        due.fails(Due.INDEX, "P16 without a match", () -> x.guard(0, NONE, 0, 0));
        int named = x.name(3, x.any());
        x.begin(1, NUMBER, 0, 0);
        x.add(named, NONE, NONE, 1);
        for (int wrong : new int[] {-1, 1, TOP, LOW}) {
            due.fails(Due.INDEX, "P16 case " + wrong, () -> x.guard(wrong, 0, 3, 10));
        }
        for (int wrong : new int[] {-2, 4, TOP, LOW}) {
            due.fails(Due.INDEX, "P16 guard " + wrong, () -> x.guard(0, wrong, 1, 10));
        }
        for (int wrong : new int[] {-1, 6, TOP, LOW}) {
            due.fails(Due.INDEX, "P16 name " + wrong, () -> x.guard(0, 0, wrong, 10));
            due.fails(Due.INDEX, "P16 no guard, name " + wrong, () -> x.guard(0, NONE, wrong, 0));
        }
        for (int wrong : new int[] {-1, 10, TOP, LOW}) {
            due.fails(Due.ARGUMENT, "P16 than " + wrong, () -> x.guard(0, 0, 3, wrong));
            due.fails(Due.ARGUMENT, "P16 no guard, than " + wrong, () -> x.guard(0, NONE, 0, wrong));
        }
        due.fails(Due.ARGUMENT, "P16 a name not bound", () -> x.guard(0, 0, 0, 0));
        due.fails(Due.ARGUMENT, "P16 no guard, name 3", () -> x.guard(0, NONE, 3, 0));
        due.is("P16 the first guard", () -> x.guard(0, Patternforge.RAISES, 3, 9), NONE);
        due.is("P16 the second guard", () -> x.guard(0, Patternforge.LESS, 3, 0), 3);
        due.is("P16 no guard", () -> x.guard(0, NONE, 0, 7), 0);
        due.is("P16 no guard again", () -> x.guard(0, NONE, 0, 0), NONE);
        due.is("P16 a guard again", () -> x.guard(0, Patternforge.MORE, 3, 0), NONE);
        due.is("P16 MORE before", () -> x.guard(0, Patternforge.SAME, 3, 0), 2);
        due.is("P16 SAME before", () -> x.guard(0, Patternforge.SAME, 3, 0), 1);
    }

    /** What names are bound to, on each way. */
    private static void guardOfKinds() {
        Patternforge x = new Patternforge();
        x.constructor(0, 2, NUMBER, 0, 0);
        x.constructor(0, 1, SEQUENCE, 0, 0);
        int any = x.any();
        int named = x.name(0, any);
        int number = x.make(0, 0, named, any, NONE);
        int type = x.make(0, 0, any, named, NONE);
        int sequence = x.make(0, 1, named, NONE, NONE);
        int inSequence = x.make(0, 1, x.list(1, named, NONE, 1), NONE, NONE);
        int mixed = x.either(number, type);
        int mixedToo = x.either(named, number);
        int alike = x.either(number, inSequence);
        int seen = x.name(0, x.view(0, any));
        x.begin(2, 0, NUMBER, 0);
        x.add(number, any, NONE, 0);
        x.add(type, any, NONE, 1);
        x.add(sequence, any, NONE, 2);
        x.add(inSequence, any, NONE, 3);
        x.add(mixed, any, NONE, 4);
        x.add(mixedToo, any, NONE, 5);
        x.add(alike, any, NONE, 6);
        x.add(any, seen, NONE, 7);
        boolean[] isNumber = {true, false, false, true, false, false, true, true};
        for (int i = 0; i < 8; i++) {
            int n = i;
            if (isNumber[i]) {
                due.is("P16 a number in case " + i, () -> x.guard(n, 1, 0, 4), NONE);
            } else {
                due.fails(Due.ARGUMENT, "P16 no number in case " + i, () -> x.guard(n, 1, 0, 4));
            }
        }
        x.begin(1, SEQUENCE, 0, 0);
        x.add(named, NONE, NONE, 0);
        due.fails(Due.ARGUMENT, "P16 a column that is no number", () -> x.guard(0, 1, 0, 4));
    }

    private static void guardOutcomes() {
        Patternforge x = new Patternforge();
        int named = x.name(0, x.any());
        x.begin(1, NUMBER, 0, 0);
        x.add(named, NONE, NONE, 7);
        int value = 0;
        for (int i = 3; i <= 5; i++) x.num(i);
        int[][] want = {{7, -1, -1}, {-1, 7, -1}, {-1, -1, 7}, {7, -2, 7}};
        for (int guard = 0; guard < 4; guard++) {
            x.guard(0, guard, 0, 4);
            for (int i = 0; i < 3; i++) {
                for (int engine = 0; engine < 4; engine++) {
                    int e = engine, v = i;
                    due.is("P16 guard " + guard + " of " + (3 + i) + " by " + e, () -> x.run(e, v, NONE, NONE), want[guard][i]);
                }
            }
        }
        x.guard(0, NONE, 0, 0);
        due.is("P16 no guard, taken", () -> x.run(0, value, NONE, NONE), 7);
    }

    private static void split() {
        Patternforge x = new Patternforge();
        due.fails(Due.INDEX, "P17 without a match", () -> x.split(0, 0));
        int any = x.any();
        int low = x.range(0, 2), high = x.range(7, 9);
        int both = x.either(low, high);
        int seen = x.either(x.view(0, any), any);
        int named = x.name(0, both);
        x.begin(2, NUMBER, NUMBER, 0);
        x.add(both, seen, NONE, 5);
        x.add(named, any, NONE, 6);
        for (int wrong : new int[] {-1, 2, TOP, LOW}) {
            due.fails(Due.INDEX, "P17 case " + wrong, () -> x.split(wrong, 0));
            due.fails(Due.INDEX, "P17 column " + wrong, () -> x.split(0, wrong));
        }
        due.fails(Due.STATE, "P17 a view", () -> x.split(0, 1));
        due.fails(Due.STATE, "P17 any", () -> x.split(1, 1));
        due.fails(Due.STATE, "P17 a name", () -> x.split(1, 0));
        due.is("P17 with a view in another column", () -> x.split(0, 0), 3);
        due.is("P17 the case behind is the next one", () -> x.add(both, both, NONE, 8), 3);
        x.num(1);
        x.num(8);
        due.is("P17 the first alternative", () -> x.run(0, 0, 0, NONE), 5);
        due.is("P17 taken, the first one", () -> x.taken(0), 1);
        due.is("P17 the second alternative", () -> x.run(0, 1, 0, NONE), 5);
        due.is("P17 taken, the second one", () -> x.taken(1), 1);
        due.fails(Due.STATE, "P17 once is enough", () -> x.split(0, 0));
        due.fails(Due.STATE, "P17 once is enough, the second one", () -> x.split(1, 0));
        x.add(x.name(1, any), both, NONE, 9);
        x.guard(4, 0, 1, 5);
        due.fails(Due.STATE, "P17 a guard", () -> x.split(4, 1));
        x.guard(4, NONE, 0, 0);
        due.is("P17 no guard now", () -> x.split(4, 1), 6);
        due.is("P17 seven", () -> x.split(3, 0), 7);
        due.is("P17 eight", () -> x.split(3, 1), 8);
        due.fails(Due.STATE, "P17 there are 8", () -> x.split(5, 1));
        due.is("P17 eight are there", () -> x.begin(1, 0, 0, 0), 8);
    }

    private static void splitKeeps() {
        Patternforge x = new Patternforge();
        int low = x.range(0, 2), high = x.range(7, 9);
        int both = x.either(x.name(0, low), x.name(0, high));
        int middle = x.name(1, x.range(4, 5));
        x.begin(1, NUMBER, 0, 0);
        x.add(middle, NONE, NONE, 1);
        x.add(both, NONE, NONE, 2);
        x.add(middle, NONE, NONE, 3);
        x.guard(0, 1, 1, 4);
        for (int i : new int[] {4, 5, 1, 8}) x.num(i);
        for (int i = 0; i < 4; i++) x.run(i, i, NONE, NONE);
        due.is("P17 taken before", () -> x.taken(1), 2);
        due.is("P17 three", () -> x.split(1, 0), 4);
        due.is("P17 the latest run is told of", () -> x.bound(0), 1);
        int[] taken = {1, 0, 0, 1};
        for (int i = 0; i < 4; i++) {
            int n = i;
            due.is("P17 taken, case " + i, () -> x.taken(n), taken[i]);
        }
        due.is("P17 the guard of the first case", () -> x.guard(0, 1, 1, 4), 1);
        due.is("P17 no guard of the second case", () -> x.guard(1, 1, 0, 1), NONE);
        due.is("P17 its name", () -> x.run(0, 2, NONE, NONE), 2);
        due.is("P17 nor of the third one", () -> x.guard(2, 1, 0, 1), NONE);
        due.is("P17 nor of the last one", () -> x.guard(3, NONE, 0, 0), NONE);
        int[] result = {1, 3, 2, -1};
        for (int i = 0; i < 4; i++) {
            int n = i;
            due.is("P17 run of " + i, () -> x.run(3, n, NONE, NONE), result[i]);
        }
    }

    /** A view anywhere in the pattern keeps a case from being split or merged there. */
    private static void viewsWithin() {
        for (int field = 0; field < 4; field++) {
            Patternforge x = new Patternforge();
            x.constructor(0, 3, NUMBER, NUMBER, SEQUENCE);
            x.constructor(1, 1, 0, 0, 0);
            int any = x.any();
            int[] f = {any, any, any};
            if (field < 2) f[field] = x.name(0, x.view(2, any));
            if (field == 2) f[2] = x.list(2, any, x.name(0, x.view(1, any)), 1);
            int inner = x.make(0, 0, field == 3 ? x.name(0, any) : f[0], f[1], f[2]);
            int pattern = x.make(1, 0, inner, NONE, NONE);
            int both = x.either(pattern, pattern);
            x.begin(1, 1, 0, 0);
            x.add(both, NONE, NONE, 1);
            x.add(pattern, NONE, NONE, 2);
            x.add(pattern, NONE, NONE, 2);
            if (field < 3) {
                due.fails(Due.STATE, "P17 a view within, " + field, () -> x.split(0, 0));
                due.fails(Due.STATE, "P18 a view within, " + field, () -> x.merge(1, 0));
            } else {
                due.is("P17 no view within", () -> x.split(0, 0), 4);
                due.is("P18 no view within", () -> x.merge(2, 0), 3);
            }
        }
    }

    private static void merge() {
        Patternforge x = new Patternforge();
        due.fails(Due.INDEX, "P18 without a match", () -> x.merge(0, 0));
        int any = x.any();
        int low = x.name(0, x.range(0, 2)), high = x.name(0, x.range(7, 9));
        x.begin(2, NUMBER, NUMBER, 0);
        x.add(low, any, NONE, 5);
        due.fails(Due.INDEX, "P18 one case", () -> x.merge(0, 0));
        x.add(high, any, NONE, 5);
        x.add(any, any, NONE, 6);
        for (int wrong : new int[] {-1, 2, 3, TOP, LOW}) {
            due.fails(Due.INDEX, "P18 case " + wrong, () -> x.merge(wrong, 0));
            due.fails(Due.INDEX, "P18 column " + wrong, () -> x.merge(0, wrong));
        }
        due.fails(Due.STATE, "P18 unlike patterns in another column", () -> x.merge(0, 1));
        due.fails(Due.STATE, "P18 unlike results", () -> x.merge(1, 0));
        x.guard(0, 1, 0, 1);
        due.fails(Due.STATE, "P18 a guard of the first one", () -> x.merge(0, 0));
        x.guard(0, NONE, 0, 0);
        x.guard(1, 1, 0, 1);
        due.fails(Due.STATE, "P18 a guard of the second one", () -> x.merge(0, 0));
        x.guard(1, NONE, 0, 0);
        x.num(1);
        x.num(8);
        x.num(5);
        x.run(0, 0, 0, NONE);
        x.run(0, 1, 0, NONE);
        x.run(0, 2, 0, NONE);
        int before = x.any();
        due.is("P18 two are left", () -> x.merge(0, 0), 2);
        due.is("P18 not taken yet", () -> x.taken(0), 0);
        due.is("P18 the next one moved", () -> x.taken(1), 1);
        due.is("P18 a new pattern", () -> x.any(), before + 2);
        due.fails(Due.ARGUMENT, "P18 it binds what both bind", () -> x.name(0, before + 1));
        due.is("P18 it is a pattern of two alternatives", () -> x.either(before + 1, low), before + 3);
        due.is("P18 the first alternative", () -> x.run(1, 0, 0, NONE), 5);
        due.is("P18 the second alternative", () -> x.run(2, 1, 0, NONE), 5);
        due.is("P18 its name", () -> x.bound(0), 1);
        due.is("P18 taken", () -> x.taken(0), 2);
        due.is("P18 the next one", () -> x.run(3, 2, 0, NONE), 6);
    }

    private static void mergeLimits() {
        Patternforge x = new Patternforge();
        int any = x.any();
        int same = x.any();
        int seen = x.view(0, any);
        int named = x.name(0, any);
        int list = x.list(0, NONE, NONE, 0);
        int large = list;
        for (int i = 0; i < 4; i++) large = x.either(large, large);
        x.begin(2, SEQUENCE, SEQUENCE, 0);
        x.add(any, any, NONE, 1);
        x.add(any, same, NONE, 1);
        x.add(seen, same, NONE, 1);
        x.add(any, same, NONE, 1);
        x.add(named, same, NONE, 1);
        x.add(large, any, NONE, 1);
        x.add(large, any, NONE, 1);
        due.fails(Due.STATE, "P18 unlike by their numbers", () -> x.merge(0, 0));
        due.fails(Due.STATE, "P18 a view in the second one", () -> x.merge(1, 0));
        due.fails(Due.STATE, "P18 a view in the first one", () -> x.merge(2, 0));
        due.fails(Due.STATE, "P18 unlike names", () -> x.merge(3, 0));
        due.fails(Due.STATE, "P18 a size above 40", () -> x.merge(5, 0));
        due.is("P18 likes in the column", () -> x.merge(5, 1), 6);
        due.is("P18 in the second column", () -> x.merge(0, 1), 5);
        x.begin(2, SEQUENCE, SEQUENCE, 0);
        x.add(seen, any, NONE, 1);
        x.add(seen, same, NONE, 1);
        x.add(seen, same, NONE, 1);
        due.is("P18 a view in another column", () -> x.merge(0, 1), 2);
        while (x.any() < 59) {
            due.holds("P18 the patterns get fewer", true);
        }
        due.fails(Due.STATE, "P18 there are 60 patterns", () -> x.merge(0, 1));
        due.is("P18 two are there", () -> x.begin(1, 0, 0, 0), 2);
    }

    /** Splitting and merging leave what each value is answered. */
    private static void splitAndMerge() {
        Patternforge x = new Patternforge();
        x.constructor(0, 1, NUMBER, 0, 0);
        x.constructor(0, 1, SEQUENCE, 0, 0);
        x.constructor(0, 0, 0, 0, 0);
        int low = x.name(0, x.range(0, 4));
        int number = x.make(0, 0, low, NONE, NONE);
        int last = x.make(0, 1, x.list(1, low, NONE, 2), NONE, NONE);
        int first = x.make(0, 1, x.list(1, low, NONE, 1), NONE, NONE);
        int some = x.either(number, x.either(last, first));
        x.begin(1, 0, 0, 0);
        x.add(some, NONE, NONE, 4);
        x.add(x.any(), NONE, NONE, 5);
        int values = 0;
        for (int i = 2; i < 7; i += 2) {
            x.data(0, 0, x.num(i), NONE, NONE);
            x.data(0, 1, x.seq(2, i, 9, 0), NONE, NONE);
            values = x.data(0, 1, x.seq(3, 9, 9, i), NONE, NONE) + 1;
        }
        int[] before = answers(x, values);
        due.is("P17 one more", () -> x.split(0, 0), 3);
        same("split once", before, answers(x, values));
        due.is("P17 two more", () -> x.split(1, 0), 4);
        same("split twice", before, answers(x, values));
        due.is("P18 one less", () -> x.merge(0, 0), 3);
        same("merged once", before, answers(x, values));
        due.is("P18 two less", () -> x.merge(0, 0), 2);
        same("merged twice", before, answers(x, values));
    }

    private static int[] answers(Patternforge x, int values) {
        int[] all = new int[values];
        for (int i = 0; i < values; i++) {
            try {
                all[i] = x.run(i % 4, i, NONE, NONE) * 1000 + x.bound(0);
            } catch (IllegalArgumentException e) {
                all[i] = -1000;
            }
        }
        return all;
    }

    private static void same(String what, int[] before, int[] after) {
        due.holds("P17, P18 " + what, java.util.Arrays.equals(before, after));
    }
}
