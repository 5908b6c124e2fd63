/** Promises 25 to 28: what trees tell. */
public final class TreesTest {
    private static final int NONE = Patternforge.NONE;
    private static final int NUMBER = Patternforge.NUMBER;
    private static final int SEQUENCE = Patternforge.SEQUENCE;
    private static final int HOLE = Patternforge.HOLE;
    private static final int LARGE = Patternforge.TOO_LARGE;
    private static final int FIRST = Patternforge.FIRST, MOST = Patternforge.MOST;
    private static final int TOP = Integer.MAX_VALUE, LOW = Integer.MIN_VALUE;

    private static final Due due = new Due("TreesTest");

    public static void main(String[] args) {
        withoutMatch();
        smallTrees();
        guards();
        raising();
        viewsInTrees();
        firstAndMost();
        mostBySecondAlternatives();
        mostCountsCases();
        mostOfKinds();
        sharing();
        kindsAtOnePlace();
        examples();
        exampleOrder();
        used();
        limit();
        changes();
        deep();
        due.end();
    }

    private static void sizes(Patternforge x, String what, int first, int firstShared, int most, int mostShared) {
        due.is("P25 FIRST, " + what, () -> x.size(FIRST, false), first);
        due.is("P25 FIRST, shared, " + what, () -> x.size(FIRST, true), firstShared);
        due.is("P25 MOST, " + what, () -> x.size(MOST, false), most);
        due.is("P25 MOST, shared, " + what, () -> x.size(MOST, true), mostShared);
    }

    private static void withoutMatch() {
        Patternforge x = new Patternforge();
        for (int wrong : new int[] {0, 1, 4, -1, TOP, LOW}) {
            due.fails(Due.INDEX, "P25 engine " + wrong, () -> x.size(wrong, true));
        }
        due.fails(Due.STATE, "P25 no match", () -> x.size(FIRST, true));
        due.fails(Due.STATE, "P25 no match", () -> x.size(MOST, false));
        due.fails(Due.STATE, "P26 no match", () -> x.missing());
        due.fails(Due.STATE, "P27 no match", () -> x.example(1));
        due.fails(Due.INDEX, "P28 no match", () -> x.isUsed(0));
        x.begin(2, 0, SEQUENCE, 0);
        sizes(x, "no cases", 1, 1, 1, 1);
        due.is("P26 no cases", () -> x.missing(), 1);
        due.is("P27 no cases", () -> x.example(1), HOLE);
        for (int wrong : new int[] {0, 1, 4, -1, TOP, LOW}) {
            due.fails(Due.INDEX, "P25 engine " + wrong, () -> x.size(wrong, false));
            due.fails(Due.INDEX, "P28 case " + wrong, () -> x.isUsed(wrong));
        }
    }

    private static void smallTrees() {
        Patternforge x = new Patternforge();
        for (int i = 0; i < 3; i++) x.constructor(0, 0, 0, 0, 0);
        x.constructor(1, 0, 0, 0, 0);
        int any = x.any();
        x.begin(1, 0, 0, 0);
        x.add(any, NONE, NONE, 1);
        sizes(x, "any", 1, 1, 1, 1);
        due.is("P26 none missing", () -> x.missing(), 0);
        due.fails(Due.STATE, "P27 none missing", () -> x.example(1));
        x.begin(1, 0, 0, 0);
        x.add(x.make(0, 1, NONE, NONE, NONE), NONE, NONE, 1);
        sizes(x, "a constructor", 4, 3, 4, 3);
        due.is("P26 two missing", () -> x.missing(), 2);
        x.constructor(0, 0, 0, 0, 0);
        sizes(x, "another constructor", 5, 3, 5, 3);
        due.is("P26 three missing", () -> x.missing(), 3);
        x.begin(1, 1, 0, 0);
        x.add(x.make(1, 0, NONE, NONE, NONE), NONE, NONE, 1);
        sizes(x, "one constructor", 2, 1, 2, 1);
        x.begin(1, NUMBER, 0, 0);
        x.add(x.range(0, 9), NONE, NONE, 1);
        sizes(x, "all numbers", 11, 1, 11, 1);
        x.begin(1, SEQUENCE, 0, 0);
        x.add(x.list(1, any, NONE, Patternforge.AT_END), NONE, NONE, 1);
        sizes(x, "lengths", 5, 3, 5, 3);
        due.is("P26 one length missing", () -> x.missing(), 1);
        due.is("P27 the length 0", () -> x.example(1), 0);
    }

    private static void guards() {
        Patternforge x = new Patternforge();
        int named = x.name(0, x.any());
        x.begin(1, NUMBER, 0, 0);
        x.add(named, NONE, NONE, 1);
        x.add(named, NONE, NONE, 2);
        x.add(named, NONE, NONE, 3);
        x.guard(0, Patternforge.LESS, 0, 3);
        x.guard(1, Patternforge.MORE, 0, 5);
        sizes(x, "guards on what is not known", 5, 5, 5, 5);
        due.is("P26 none missing", () -> x.missing(), 0);
        x.guard(2, Patternforge.SAME, 0, 4);
        sizes(x, "three guards", 7, 7, 7, 7);
        due.is("P26 one missing", () -> x.missing(), 1);
        due.is("P27 nothing known", () -> x.example(1), HOLE);
        for (int i = 0; i < 10; i++) x.num(i);
        int[] want = {1, 1, 1, -1, 3, -1, 2, 2, 2, 2};
        for (int i = 0; i < 10; i++) {
            for (int engine = 0; engine < 4; engine++) {
                int e = engine, v = i;
                due.is("P19 guards, " + i + " by " + e, () -> x.run(e, v, NONE, NONE), want[i]);
            }
        }
    }

    private static void raising() {
        Patternforge x = new Patternforge();
        int named = x.name(0, x.range(3, 4));
        x.begin(1, NUMBER, 0, 0);
        x.add(named, NONE, NONE, 1);
        x.guard(0, Patternforge.RAISES, 0, 9);
        // The number; a guard with two leaves for 3 and 4; MISSED for the eight others.
        sizes(x, "raising", 1 + 2 * 3 + 8, 5, 1 + 2 * 3 + 8, 5);
        due.is("P26 raising", () -> x.missing(), 8);
        due.is("P28 raising", () -> x.isUsed(0), true);
        x.add(x.range(3, 4), NONE, NONE, 2);
        due.is("P28 nothing comes behind", () -> x.isUsed(1), false);
        x.guard(0, Patternforge.SAME, 0, 9);
        due.is("P28 that comes behind a guard", () -> x.isUsed(1), true);
        sizes(x, "not raising", 1 + 2 * 3 + 8, 5, 1 + 2 * 3 + 8, 5);
    }

    private static void viewsInTrees() {
        Patternforge x = new Patternforge();
        int any = x.any(), zero = x.range(0, 0);
        x.setView(0, 1, 0, 0, 3);
        x.setView(1, 1, 0, 0, 1);
        x.begin(2, NUMBER, NUMBER, 0);
        x.add(x.view(0, zero), x.view(0, zero), NONE, 1);
        x.add(x.view(1, any), any, NONE, 2);
        // View 0 at 1; at 2 for a 0; view 1, with one leaf behind it, wherever case 0 fails.
        sizes(x, "views", 1 + 1 + 1 + 2 * 2 + 2 * 2, 5, 1 + 1 + 1 + 2 * 2 + 2 * 2, 5);
        due.is("P26 none missing", () -> x.missing(), 0);
        x.begin(2, NUMBER, NUMBER, 0);
        x.add(x.view(1, any), x.view(1, any), NONE, 1);
        sizes(x, "one view at two places", 3, 3, 3, 3);
        x.setView(1, 1, 0, 0, 10);
        sizes(x, "ten numbers", 1 + 10 + 100, 3, 1 + 10 + 100, 3);
    }

    /** The place that the most cases need; of several the lowest one, though another is come to first. */
    private static void firstAndMost() {
        Patternforge x = new Patternforge();
        for (int i = 0; i < 4; i++) x.constructor(0, 0, 0, 0, 0);
        int any = x.any();
        int[] c = new int[4];
        for (int i = 0; i < 4; i++) c[i] = x.make(0, i, NONE, NONE, NONE);
        x.begin(2, 0, 0, 0);
        x.add(c[0], c[0], NONE, 1);
        x.add(any, c[1], NONE, 2);
        x.add(any, c[2], NONE, 3);
        // FIRST asks place 1 and then, for each, place 2; MOST the other way, since three cases need 2
        // and one needs 1. For case 0 the plain order comes to place 1, whatever place 2 is.
        sizes(x, "place 2 first", 1 + 4 * 5, 7, 1 + 4 * 5, 6);
        for (int i = 0; i < 4; i++) x.data(0, i, NONE, NONE, NONE);
        due.is("P19 by FIRST", () -> x.run(FIRST, 3, 1, NONE), 2);
        due.is("P20 by FIRST", () -> x.tests(), 2);
        due.is("P19 by MOST", () -> x.run(MOST, 3, 1, NONE), 2);
        due.is("P20 by MOST", () -> x.tests(), 2);
        x.begin(2, 0, 0, 0);
        x.add(any, c[0], NONE, 1);
        x.add(c[0], any, NONE, 2);
        // Both places are needed once, and FIRST asks 2. MOST asks 1, and 2 behind each constructor.
        sizes(x, "the lowest place", 1 + 1 + 3 * 5, 5, 1 + 4 * 5, 6);
        x.add(any, c[1], NONE, 3);
        sizes(x, "not the lowest place", 1 + 1 + 3 * 5, 7, 1 + 1 + 3 * 5, 7);
    }

    /** In alternatives both are needed, whatever is known of the first one; in views nothing. */
    private static void mostBySecondAlternatives() {
        Patternforge x = new Patternforge();
        for (int i = 0; i < 2; i++) x.constructor(0, 0, 0, 0, 0);
        int any = x.any();
        int zero = x.make(0, 0, NONE, NONE, NONE), one = x.make(0, 1, NONE, NONE, NONE);
        int loose = x.either(any, zero);
        x.begin(3, 0, 0, 0);
        x.add(zero, any, any, 1);
        x.add(loose, zero, one, 2);
        x.add(any, loose, zero, 3);
        x.add(any, any, x.name(0, zero), 4);
        int first = x.size(MOST, false);
        // Place 3 is needed by three cases, place 1 and 2 by two each.
        for (int i = 0; i < 2; i++) x.data(0, i, NONE, NONE, NONE);
        due.is("P20 place 3 and 1", () -> x.run(MOST, 0, 0, 0), 1);
        due.is("P20 place 3 and 1", () -> x.tests(), 2);
        due.holds("P25 MOST stands", first > 0);
        x.setView(0, 1, 0, 0, 2);
        int seen = x.view(0, x.range(0, 0));
        x.begin(2, 0, 0, 0);
        x.add(zero, any, NONE, 1);
        x.add(any, seen, NONE, 2);
        x.add(any, seen, NONE, 3);
        sizes(x, "views need nothing", 5, 5, 5, 5);
    }

    /** Cases that fail by what is known, or whose guards failed, do not count. */
    private static void mostCountsCases() {
        Patternforge x = new Patternforge();
        for (int i = 0; i < 2; i++) x.constructor(0, 0, 0, 0, 0);
        x.constructor(1, 3, 0, 0, 0);
        x.constructor(1, 0, 0, 0, 0);
        int any = x.any();
        int zero = x.make(0, 0, NONE, NONE, NONE), one = x.make(0, 1, NONE, NONE, NONE);
        int number = x.name(0, any);
        x.begin(3, 0, 0, NUMBER);
        x.add(any, any, number, 0);
        x.add(any, zero, any, 1);
        x.add(zero, any, any, 2);
        x.add(one, zero, any, 3);
        x.add(one, one, any, 4);
        x.guard(0, Patternforge.LESS, 0, 5);
        // FIRST asks place 2, and behind its second constructor place 1. MOST asks the lowest one of the
        // places 1 and 2, which three cases each need, and place 2 behind both of its constructors.
        sizes(x, "a guard that failed", 2 + 1 + 1 + 3, 7, 2 + 1 + 3 + 3, 8);
        x.begin(3, 1, 0, 0);
        int both = x.make(1, 0, zero, zero, any);
        x.add(both, zero, any, 0);
        x.add(both, any, zero, 1);
        x.add(x.make(1, 0, any, one, zero), any, any, 2);
        // FIRST: 1; 6; for 0 there 7, with 2 and 3 (5 nodes), or 8 (3 nodes); for 1 there 7, with 8.
        due.is("P25 FIRST by levels", () -> x.size(FIRST, false), 2 + 1 + (1 + 5 + 3) + (2 + 3));
        // MOST: 1 by three; 7 by three; for 0 there the third case fails, and 6 is needed by two, and
        // behind it 2 and 3; for 1 there the first two cases do not fail yet, and need 6 too.
        due.is("P25 MOST by levels", () -> x.size(MOST, false), 2 + 1 + (1 + 5 + 1) + (1 + 3 + 3));
        // The four leaves and, for FIRST, 1, 6, both of 7, and 2, 3 and 8; for MOST 1, 7, the one of 6 that
        // is not the same behind both, and 2, 3 and 8.
        due.is("P25 FIRST by levels, shared", () -> x.size(FIRST, true), 4 + 7);
        due.is("P25 MOST by levels, shared", () -> x.size(MOST, true), 4 + 6);
    }

    /** Two places that are needed as often, and one that is needed once more, whatever their kinds. */
    private static void mostOfKinds() {
        for (int kind = 0; kind <= SEQUENCE; kind++) {
            for (int other = 0; other <= SEQUENCE; other++) {
                Patternforge x = new Patternforge();
                for (int type = 0; type < 4; type++) {
                    for (int i = 0; i < type + 2 && i < 4; i++) x.constructor(type, 0, 0, 0, 0);
                }
                int[] heads = {2, 3, 4, 4, 10, 4};
                int any = x.any();
                int one = simple(x, kind), two = simple(x, other);
                // Case 0 comes to place 2 first, and FIRST asks that.
                x.begin(2, kind, other, 0);
                x.add(any, two, NONE, 1);
                x.add(one, any, NONE, 2);
                int a = heads[kind], b = heads[other];
                due.is("P25 kinds, FIRST", () -> x.size(FIRST, false), 2 + (b - 1) * (1 + a));
                due.is("P25 kinds, once each", () -> x.size(MOST, false), 1 + a * (1 + b));
                x.add(any, two, NONE, 3);
                due.is("P25 kinds, place 2 twice", () -> x.size(MOST, false), 2 + (b - 1) * (1 + a));
                x.add(one, any, NONE, 4);
                x.add(one, any, NONE, 5);
                due.is("P25 kinds, place 1 thrice", () -> x.size(MOST, false), 1 + a * (1 + b));
            }
        }
    }

    /** A pattern that one constructor, number or length of a kind fits. */
    private static int simple(Patternforge x, int kind) {
        if (kind == NUMBER) return x.range(7, 7);
        return kind == SEQUENCE ? x.list(0, NONE, NONE, Patternforge.NO_REST) : x.make(kind, 1, NONE, NONE, NONE);
    }

    private static void sharing() {
        Patternforge x = new Patternforge();
        for (int i = 0; i < 3; i++) x.constructor(0, 0, 0, 0, 0);
        int any = x.any();
        int zero = x.make(0, 0, NONE, NONE, NONE), one = x.make(0, 1, NONE, NONE, NONE);
        x.begin(2, 0, 0, 0);
        x.add(zero, zero, NONE, 1);
        x.add(one, zero, NONE, 1);
        x.add(any, any, NONE, 1);
        // Leaves of three cases stay three, though their results are the same one.
        due.is("P25 leaves by cases", () -> x.size(FIRST, true), 6);
        x.begin(2, 0, 0, 0);
        x.add(x.either(zero, one), zero, NONE, 1);
        x.add(any, zero, NONE, 2);
        x.add(x.either(one, any), any, NONE, 3);
        due.is("P25 nodes by places", () -> x.size(FIRST, true), 6);
        // A node with all the same behind it is replaced, and so those ahead of it.
        x.begin(2, 0, 0, 0);
        x.add(zero, any, NONE, 1);
        x.add(x.either(one, x.either(zero, x.make(0, 2, NONE, NONE, NONE))), x.either(zero, any), NONE, 2);
        due.is("P25 what is behind", () -> x.size(FIRST, false), 1 + 1 + 2 * 4);
        due.is("P25 replaced", () -> x.size(FIRST, true), 3);
        // Views and guards are not replaced.
        x.setView(0, 1, 0, 0, 2);
        x.begin(1, NUMBER, 0, 0);
        x.add(x.name(0, any), NONE, NONE, 1);
        x.add(x.either(x.view(0, x.range(0, 0)), any), NONE, NONE, 1);
        x.guard(0, Patternforge.SAME, 0, 0);
        due.is("P25 a guard and a view stay", () -> x.size(FIRST, true), 4);
        due.is("P25 all nodes", () -> x.size(FIRST, false), 5);
    }

    /** At place 6 is a number, a sequence or a type: what is asked there is not the same. */
    private static void kindsAtOnePlace() {
        Patternforge x = new Patternforge();
        x.constructor(0, 1, SEQUENCE, 0, 0);
        x.constructor(0, 1, 1, 0, 0);
        x.constructor(0, 1, 2, 0, 0);
        for (int i = 0; i < 4; i++) {
            x.constructor(1, 0, 0, 0, 0);
            x.constructor(2, 0, 0, 0, 0);
        }
        int list = x.list(0, NONE, NONE, Patternforge.NO_REST);
        int one = x.make(1, 0, NONE, NONE, NONE), two = x.make(2, 0, NONE, NONE, NONE);
        int pattern = x.either(x.make(0, 0, list, NONE, NONE),
                x.either(x.make(0, 1, one, NONE, NONE), x.make(0, 2, two, NONE, NONE)));
        x.begin(1, 0, 0, 0);
        x.add(pattern, NONE, NONE, 1);
        sizes(x, "three kinds at one place", 1 + 3 * 5, 1 + 3 + 2, 1 + 3 * 5, 1 + 3 + 2);
    }

    private static void examples() {
        Patternforge x = new Patternforge();
        x.constructor(0, 2, SEQUENCE, 0, 0);
        x.constructor(0, 0, 0, 0, 0);
        int any = x.any();
        int end = x.make(0, 1, NONE, NONE, NONE);
        int list = x.list(2, x.range(0, 7), any, Patternforge.AT_BEGIN);
        x.begin(2, 0, NUMBER, 0);
        x.add(end, any, NONE, 1);
        x.add(x.make(0, 0, x.list(1, any, NONE, Patternforge.NO_REST), any, NONE), any, NONE, 2);
        x.add(x.make(0, 0, x.list(0, NONE, NONE, Patternforge.NO_REST), any, NONE), any, NONE, 3);
        x.add(x.make(0, 0, list, any, NONE), any, NONE, 4);
        due.is("P26 lengths 2 and 3, 8 and 9", () -> x.missing(), 4);
        int[][] want = {{1, 0}, {2, HOLE}, {6, 2}, {7, HOLE}, {31, 8}, {32, HOLE}, {33, HOLE}, {0, HOLE}, {-1, HOLE},
            {468, HOLE}, {469, HOLE}, {TOP, HOLE}, {LOW, HOLE}};
        for (int[] pair : want) due.is("P27 example(" + pair[0] + ")", () -> x.example(pair[0]), pair[1]);
        x.add(x.make(0, 0, any, end, NONE), any, NONE, 5);
        due.is("P27 one more is known", () -> x.example(7), 0);
        x.add(any, any, NONE, 6);
        due.fails(Due.STATE, "P27 nothing is missing", () -> x.example(1));
    }

    /** What comes behind a guard that held comes ahead; views by the numbers that they give. */
    private static void exampleOrder() {
        Patternforge x = new Patternforge();
        int any = x.any();
        x.setView(0, 1, 0, 0, 4);
        x.begin(3, NUMBER, SEQUENCE, SEQUENCE);
        x.add(x.name(0, any), x.list(0, NONE, NONE, Patternforge.NO_REST), any, 1);
        x.add(x.view(0, x.range(0, 2)), any, any, 2);
        x.add(any, any, x.list(1, any, NONE, Patternforge.AT_END), 3);
        x.guard(0, Patternforge.LESS, 0, 4);
        due.is("P26 behind a guard, and beside it", () -> x.missing(), 4);
        due.is("P27 behind the guard that failed", () -> x.example(2), 0);
        due.is("P27 the shortest", () -> x.example(3), 0);
        due.is("P27 what a view gave is no number of a place", () -> x.example(1), HOLE);
        x.begin(1, NUMBER, 0, 0);
        x.add(x.name(0, any), NONE, NONE, 1);
        x.add(x.range(0, 5), NONE, NONE, 2);
        x.guard(0, Patternforge.LESS, 0, 9);
        due.is("P27 the first number missing", () -> x.example(1), 6);
    }

    private static void used() {
        Patternforge x = new Patternforge();
        for (int i = 0; i < 2; i++) x.constructor(0, 0, 0, 0, 0);
        int any = x.any();
        int zero = x.make(0, 0, NONE, NONE, NONE), one = x.make(0, 1, NONE, NONE, NONE);
        x.begin(2, 0, 0, 0);
        x.add(zero, any, NONE, 1);
        x.add(zero, one, NONE, 2);
        x.add(any, zero, NONE, 3);
        x.add(one, x.either(zero, one), NONE, 4);
        x.add(any, any, NONE, 5);
        boolean[] want = {true, false, true, true, false};
        for (int i = 0; i < want.length; i++) {
            int n = i;
            due.is("P28 isUsed(" + i + ")", () -> x.isUsed(n), want[i]);
        }
        for (int wrong : new int[] {-1, 5, 8, TOP, LOW}) {
            due.fails(Due.INDEX, "P28 isUsed(" + wrong + ")", () -> x.isUsed(wrong));
        }
        int named = x.name(0, any);
        x.begin(1, NUMBER, 0, 0);
        x.add(named, NONE, NONE, 1);
        x.add(any, NONE, NONE, 2);
        x.guard(0, Patternforge.LESS, 0, 0);
        due.is("P28 by a guard that never holds", () -> x.isUsed(0), true);
        due.is("P28 behind a guard", () -> x.isUsed(1), true);
    }

    /** Trees with 500 nodes stand; those with 501 are TOO_LARGE. */
    private static void limit() {
        threeViews();
        manyLeaves();
        fiveHundred();
        largeOnlyByOneTree();
    }

    /** Three views in a row have 1 + m + m n + m n k nodes. */
    private static void threeViews() {
        int[][] all = {{9, 10, 4}, {4, 10, 10}, {5, 9, 10}, {10, 7, 6}, {9, 9, 5}, {1, 10, 10}, {7, 7, 9}, {6, 8, 9},
            {1, 1, 1}, {9, 5, 10}, {8, 6, 9}, {9, 6, 8}, {10, 10, 10}};
        for (int[] m : all) {
            Patternforge x = new Patternforge();
            int any = x.any();
            for (int i = 0; i < 3; i++) x.setView(i, 1, 0, 0, m[i]);
            x.begin(3, NUMBER, NUMBER, NUMBER);
            x.add(x.view(0, any), x.view(1, any), x.view(2, any), 1);
            int nodes = 1 + m[0] + m[0] * m[1] + m[0] * m[1] * m[2];
            int want = nodes > 500 ? LARGE : nodes;
            int shared = nodes > 500 ? LARGE : 4;
            sizes(x, m[0] + " by " + m[1] + " by " + m[2], want, shared, want, shared);
        }
    }

    private static void manyLeaves() {
        Patternforge x = new Patternforge();
        int any = x.any(), nine = x.range(9, 9);
        x.setView(0, 1, 0, 0, 4);
        x.begin(3, NUMBER, NUMBER, SEQUENCE);
        x.add(nine, nine, any, 1);
        x.add(any, x.view(0, x.range(3, 3)), x.list(1, nine, NONE, Patternforge.NO_REST), 2);
        // Place 1, behind its 9 place 2, behind its 9 a leaf; and 18 times a view with 4 behind it, of
        // which one is a length with 4 behind it, of which one is a number with 10 behind it.
        due.is("P25 345 nodes", () -> x.size(FIRST, false), 3 + 18 * (1 + 4 + 4 + 10));
        due.is("P26 in 345 nodes", () -> x.missing(), 18 * (3 + 3 + 9));
        x.setView(0, 1, 0, 0, 10);
        due.is("P25 453 nodes", () -> x.size(FIRST, false), 3 + 18 * (1 + 10 + 4 + 10));
        x.add(any, x.view(1, any), any, 3);
        due.is("P25 too many leaves", () -> x.size(FIRST, false), LARGE);
        due.is("P26 too many leaves", () -> x.missing(), LARGE);
        due.fails(Due.STATE, "P27 too many leaves", () -> x.example(1));
        due.fails(Due.STATE, "P28 too many leaves", () -> x.isUsed(0));
        due.fails(Due.INDEX, "P28 no case, and too many leaves", () -> x.isUsed(3));
        x.begin(1, NUMBER, 0, 0);
        due.is("P26 small again", () -> x.missing(), 1);
    }

    /** 498 nodes of views, and two constructors ahead of them: 500; and with one more: 501. */
    private static void fiveHundred() {
        Patternforge x = new Patternforge();
        x.constructor(0, 0, 0, 0, 0);
        x.constructor(1, 1, 0, 0, 0);
        int any = x.any();
        int one = x.make(0, 0, NONE, NONE, NONE), two = x.make(1, 0, one, NONE, NONE);
        x.setView(0, 1, 0, 0, 7);
        x.setView(1, 1, 0, 0, 7);
        x.setView(2, 1, 0, 0, 9);
        // Views 0 and 1 give no 9, so that all three are run.
        int seen = x.either(x.view(0, x.range(9, 9)), x.either(x.view(1, x.range(9, 9)), x.view(2, any)));
        x.begin(3, 0, 0, NUMBER);
        x.add(one, one, seen, 1);
        sizes(x, "500 nodes", 500, 4, 500, 4);
        due.is("P26 500 nodes", () -> x.missing(), 0);
        due.fails(Due.STATE, "P27 500 nodes, none missing", () -> x.example(1));
        due.is("P28 500 nodes", () -> x.isUsed(0), true);
        int zero = x.data(0, 0, NONE, NONE, NONE), number = x.num(6);
        for (int engine = 0; engine < 4; engine++) {
            int e = engine;
            due.is("P19 500 nodes by " + e, () -> x.run(e, zero, zero, number), 1);
            due.is("P20 500 nodes by " + e, () -> x.tests(), e < 2 ? 4 : 5);
        }
        x.begin(3, 1, 0, NUMBER);
        x.add(two, one, seen, 1);
        sizes(x, "501 nodes", LARGE, LARGE, LARGE, LARGE);
        due.is("P26 501 nodes", () -> x.missing(), LARGE);
        due.fails(Due.STATE, "P27 501 nodes", () -> x.example(1));
        due.fails(Due.STATE, "P28 501 nodes", () -> x.isUsed(0));
        int data = x.data(1, 0, zero, NONE, NONE);
        due.is("P19 501 nodes by codes", () -> x.run(1, data, zero, number), 1);
        due.fails(Due.STATE, "P19 501 nodes by FIRST", () -> x.run(FIRST, data, zero, number));
        due.fails(Due.STATE, "P19 501 nodes by MOST", () -> x.run(MOST, data, zero, number));
    }

    /** A tree may be TOO_LARGE while the other one is not. */
    private static void largeOnlyByOneTree() {
        Patternforge x = new Patternforge();
        x.constructor(0, 0, 0, 0, 0);
        x.constructor(1, 3, 0, 0, 0);
        int any = x.any(), zero = x.range(0, 0), low = x.range(0, 8), nine = x.range(9, 9), all = x.range(0, 9);
        int value = x.num(4);
        x.begin(3, NUMBER, NUMBER, NUMBER);
        x.add(any, low, any, 1);
        x.add(low, any, nine, 2);
        x.add(low, any, zero, 3);
        // FIRST: 2; for 9 there 1; for 0 to 8 there 3. MOST: 1 by two; for 0 to 8 there 3 by two; and 2.
        due.is("P25 FIRST stands alone", () -> x.size(FIRST, false), 1 + 9 + 1 + 1 + 9 * 11);
        due.is("P25 FIRST stands alone, shared", () -> x.size(FIRST, true), 4 + 3);
        due.is("P25 MOST is too large", () -> x.size(MOST, false), LARGE);
        due.is("P25 MOST is too large, shared", () -> x.size(MOST, true), LARGE);
        due.is("P26 by FIRST", () -> x.missing(), 1 + 9 * 8);
        due.is("P27 by FIRST", () -> x.example(3), 1);
        due.is("P28 by FIRST", () -> x.isUsed(2), true);
        due.is("P19 by FIRST", () -> x.run(FIRST, value, value, value), 1);
        due.fails(Due.STATE, "P19 by MOST", () -> x.run(MOST, value, value, value));
        int one = x.make(0, 0, NONE, NONE, NONE);
        int full = x.make(1, 0, one, one, one);
        x.begin(3, NUMBER, NUMBER, 1);
        x.add(all, all, full, 1);
        x.add(any, any, full, 2);
        // Four nodes with one behind them each: FIRST asks them a hundred times, MOST ahead of all.
        due.is("P25 FIRST is too large", () -> x.size(FIRST, true), LARGE);
        due.is("P25 MOST stands alone", () -> x.size(MOST, false), 4 + 1 + 10 + 100);
        due.is("P25 MOST stands alone, shared", () -> x.size(MOST, true), 1);
        due.is("P26 FIRST is too large", () -> x.missing(), LARGE);
        due.fails(Due.STATE, "P27 FIRST is too large", () -> x.example(1));
        due.fails(Due.STATE, "P28 FIRST is too large", () -> x.isUsed(0));
        int part = x.data(0, 0, NONE, NONE, NONE), data = x.data(1, 0, part, part, part);
        due.is("P19 MOST stands alone", () -> x.run(MOST, value, value, data), 1);
        due.fails(Due.STATE, "P19 FIRST is too large", () -> x.run(FIRST, value, value, data));
        due.is("P20 the latest run was by MOST", () -> x.tests(), 6);
    }

    /** What trees tell follows each change. */
    private static void changes() {
        Patternforge x = new Patternforge();
        x.constructor(0, 0, 0, 0, 0);
        int any = x.any(), zero = x.make(0, 0, NONE, NONE, NONE);
        x.setView(0, 1, 0, 0, 2);
        x.begin(2, 0, NUMBER, 0);
        due.is("P26 at first", () -> x.missing(), 1);
        x.add(zero, x.name(0, x.view(0, x.range(0, 0))), NONE, 1);
        due.is("P26 after add", () -> x.missing(), 1);
        x.constructor(0, 0, 0, 0, 0);
        due.is("P26 after constructor", () -> x.missing(), 2);
        x.setView(0, 1, 0, 0, 5);
        due.is("P26 after setView", () -> x.missing(), 5);
        x.guard(0, Patternforge.SAME, 0, 5);
        due.is("P26 after guard", () -> x.missing(), 6);
        x.guard(0, Patternforge.RAISES, 0, 5);
        due.is("P26 after another guard", () -> x.missing(), 5);
        x.add(x.either(zero, any), any, NONE, 2);
        due.is("P28 after add", () -> x.isUsed(1), true);
        x.split(1, 0);
        due.is("P28 after split", () -> x.isUsed(2), true);
        x.add(any, any, NONE, 2);
        due.is("P28 never", () -> x.isUsed(3), false);
        x.merge(2, 0);
        due.is("P28 after merge", () -> x.isUsed(2), true);
        due.fails(Due.INDEX, "P28 gone by merge", () -> x.isUsed(3));
        due.is("P14 three cases", () -> x.begin(1, NUMBER, 0, 0), 3);
        due.is("P25 after begin", () -> x.size(FIRST, true), 1);
    }

    /** A tree far deeper than any pattern: each node has one behind it. */
    private static void deep() {
        Patternforge x = new Patternforge();
        Model m = new Model();
        for (int t = 0; t < 4; t++) {
            int fields = t < 3 ? 3 : 0, kind = t < 3 ? t + 1 : 0;
            x.constructor(t, fields, kind, kind, kind);
            m.constructor(t, fields, kind, kind, kind);
        }
        for (int v = 0; v < 3; v++) {
            x.setView(v, 1, 0, 0, 1);
            m.setView(v, 1, 0, 0, 1);
        }
        int[] p = new int[60];
        int n = 0;
        p[n++] = x.any() + m.any() * 0;
        p[n++] = x.range(1, 1) + m.range(1, 1) * 0;
        for (int v = 0; v < 3; v++) p[n++] = x.view(v, 1) + m.view(v, 1) * 0;
        x.either(2, 3);
        m.either(2, 3);
        x.either(5, 4);
        m.either(5, 4);
        int any = 0, all = 6;
        int full = x.make(3, 0, NONE, NONE, NONE);
        m.make(3, 0, NONE, NONE, NONE);
        for (int t = 2; t >= 0; t--) {
            full = x.make(t, 0, full, full, full);
            m.make(t, 0, full - 1, full - 1, full - 1);
        }
        int[] rows = new int[3];
        for (int i = 0; i < 3; i++) {
            int[] f = {any, any, any};
            f[i] = all;
            rows[i] = x.make(2, 0, f[0], f[1], f[2]);
            m.make(2, 0, f[0], f[1], f[2]);
        }
        x.begin(3, 0, 0, 0);
        m.begin(3, 0, 0, 0);
        for (int i = 0; i < 7; i++) {
            int[] f = {any, any, any};
            f[i % 3] = rows[(i + 1) % 3];
            int one = x.make(1, 0, f[0], f[1], f[2]);
            m.make(1, 0, f[0], f[1], f[2]);
            int two = x.make(0, 0, i % 2 == 0 ? one : any, i % 2 == 0 ? any : one, any);
            m.make(0, 0, i % 2 == 0 ? one : any, i % 2 == 0 ? any : one, any);
            x.add(i < 3 ? two : full, i == 3 ? two : full, i > 3 ? two : full, i);
            m.add(i < 3 ? two : full, i == 3 ? two : full, i > 3 ? two : full, i);
        }
        x.add(full, full, full, 9);
        m.add(full, full, full, 9);
        int nodes = x.size(FIRST, false);
        due.holds("P25 a deep tree has many nodes: " + nodes, nodes > 130);
        for (int engine = 2; engine < 4; engine++) {
            int e = engine;
            due.is("P25 a deep tree", () -> x.size(e, false), m.size(e, false));
            due.is("P25 a deep tree, shared", () -> x.size(e, true), m.size(e, true));
        }
        due.is("P26 a deep tree", () -> x.missing(), m.missing());
        int value = 0;
        x.data(3, 0, NONE, NONE, NONE);
        for (int t = 2; t >= 0; t--) value = x.data(t, 0, value, value, value);
        int v = value;
        for (int engine = 0; engine < 4; engine++) {
            int e = engine;
            due.is("P19 a deep tree by " + e, () -> x.run(e, v, v, v), 9);
        }
        due.is("P20 a deep tree", () -> x.tests(), nodes - 1);
    }
}
