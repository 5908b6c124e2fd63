/** Promises 6 to 13: patterns and views. */
public final class PatternsTest {
    private static final int NONE = Patternforge.NONE;
    private static final int NUMBER = Patternforge.NUMBER;
    private static final int SEQUENCE = Patternforge.SEQUENCE;
    private static final int TOP = Integer.MAX_VALUE, LOW = Integer.MIN_VALUE;

    private static final Due due = new Due("PatternsTest");

    public static void main(String[] args) {
        anyAndFull();
        name();
        range();
        make();
        depthAndSize();
        either();
        view();
        list();
        setView();
        viewsAtFirst();
        due.end();
    }

    /** Sixty patterns of each call, and nothing told of a match by that. */
    private static void anyAndFull() {
        Patternforge x = new Patternforge();
        x.constructor(0, 0, 0, 0, 0);
        for (int i = 0; i < 60; i++) {
            int n = i;
            due.is("P6 any()", () -> x.any(), n);
        }
        due.fails(Due.STATE, "P6 any() above 60", () -> x.any());
        due.fails(Due.STATE, "P7 name above 60", () -> x.name(0, 59));
        due.fails(Due.INDEX, "P7 a wrong name above 60", () -> x.name(6, 59));
        due.fails(Due.STATE, "P8 range above 60", () -> x.range(0, 0));
        due.fails(Due.ARGUMENT, "P8 a wrong range above 60", () -> x.range(1, 0));
        due.fails(Due.STATE, "P9 make above 60", () -> x.make(0, 0, NONE, NONE, NONE));
        due.fails(Due.ARGUMENT, "P9 a wrong make above 60", () -> x.make(0, 0, 0, NONE, NONE));
        due.fails(Due.STATE, "P10 either above 60", () -> x.either(0, 1));
        due.fails(Due.INDEX, "P10 a wrong either above 60", () -> x.either(0, 60));
        due.fails(Due.STATE, "P11 view above 60", () -> x.view(0, 0));
        due.fails(Due.INDEX, "P11 a wrong view above 60", () -> x.view(3, 0));
        due.fails(Due.STATE, "P12 list above 60", () -> x.list(2, 0, 0, 0));
        due.fails(Due.ARGUMENT, "P12 a wrong list above 60", () -> x.list(1, 0, 0, 0));
        due.is("P6 no match by patterns", () -> x.begin(1, 0, 0, 0), 0);
        due.is("P6 any matches a column of any kind", () -> x.add(59, NONE, NONE, 3), 0);
    }

    private static void name() {
        Patternforge x = new Patternforge();
        x.any();
        due.is("P7 name(5, 0)", () -> x.name(5, 0), 1);
        due.is("P7 name(0, 1)", () -> x.name(0, 1), 2);
        for (int wrong : new int[] {-1, 6, TOP, LOW}) {
            due.fails(Due.INDEX, "P7 name " + wrong, () -> x.name(wrong, 0));
        }
        for (int wrong : new int[] {-1, 3, TOP, LOW}) {
            due.fails(Due.INDEX, "P7 pattern " + wrong, () -> x.name(0, wrong));
        }
        due.fails(Due.ARGUMENT, "P7 bound directly", () -> x.name(0, 2));
        due.fails(Due.ARGUMENT, "P7 bound within", () -> x.name(5, 2));
        due.is("P7 a third name", () -> x.name(3, 2), 3);
        sizes();
    }

    /** Sizes up to 40: alternatives of sizes 1, 3, 7, 15, 31, 19 and 39. */
    private static void sizes() {
        Patternforge x = new Patternforge();
        x.any();
        for (int i = 0; i < 4; i++) {
            x.either(i, i);
        }
        x.either(1, 3);
        due.is("P10 a size of 39", () -> x.either(5, 5), 6);
        due.fails(Due.ARGUMENT, "P10 a size of 41", () -> x.either(6, 0));
        due.is("P7 a size of 40", () -> x.name(0, 6), 7);
        due.fails(Due.ARGUMENT, "P7 a size of 41", () -> x.name(1, 7));
    }

    private static void range() {
        Patternforge x = new Patternforge();
        due.is("P8 range(0, 9)", () -> x.range(0, 9), 0);
        due.is("P8 range(9, 9)", () -> x.range(9, 9), 1);
        for (int wrong : new int[] {-1, 10, TOP, LOW}) {
            due.fails(Due.ARGUMENT, "P8 from " + wrong, () -> x.range(wrong, 9));
            due.fails(Due.ARGUMENT, "P8 to " + wrong, () -> x.range(0, wrong));
        }
        due.fails(Due.ARGUMENT, "P8 range(5, 4)", () -> x.range(5, 4));
        due.is("P8 range(5, 5)", () -> x.range(5, 5), 2);
        x.begin(1, NUMBER, 0, 0);
        x.add(x.range(3, 6), NONE, NONE, 1);
        for (int i = 0; i < 10; i++) {
            int value = x.num(i);
            due.is("P8 3 to 6, of " + i, () -> x.run(0, value, NONE, NONE), i >= 3 && i <= 6 ? 1 : -1);
        }
    }

    private static void make() {
        Patternforge x = new Patternforge();
        x.constructor(0, 0, 0, 0, 0);
        x.constructor(0, 3, NUMBER, SEQUENCE, 0);
        x.any();
        x.range(1, 2);
        x.list(0, NONE, NONE, 0);
        due.is("P9 without fields", () -> x.make(0, 0, NONE, NONE, NONE), 3);
        due.is("P9 with three fields", () -> x.make(0, 1, 1, 2, 3), 4);
        due.is("P9 with any fields", () -> x.make(0, 1, 0, 0, 0), 5);
        for (int wrong : new int[] {-1, 4, TOP, LOW}) {
            due.fails(Due.INDEX, "P9 type " + wrong, () -> x.make(wrong, 0, NONE, NONE, NONE));
            due.fails(Due.INDEX, "P9 constructor " + wrong, () -> x.make(0, wrong, NONE, NONE, NONE));
        }
        due.fails(Due.INDEX, "P9 a type without constructors", () -> x.make(1, 0, NONE, NONE, NONE));
        for (int wrong : new int[] {-1, 6, TOP, LOW}) {
            due.fails(Due.INDEX, "P9 first " + wrong, () -> x.make(0, 1, wrong, 1, 1));
            due.fails(Due.INDEX, "P9 second " + wrong, () -> x.make(0, 1, 2, wrong, 1));
            due.fails(Due.INDEX, "P9 third " + wrong, () -> x.make(0, 1, 2, 1, wrong));
            if (wrong != NONE) {
                due.fails(Due.ARGUMENT, "P9 no field, and " + wrong, () -> x.make(0, 0, wrong, NONE, NONE));
            }
        }
        due.fails(Due.ARGUMENT, "P9 a list for a number", () -> x.make(0, 1, 2, 2, 3));
        due.fails(Due.ARGUMENT, "P9 a range for a sequence", () -> x.make(0, 1, 1, 1, 3));
        due.fails(Due.ARGUMENT, "P9 a range for a type", () -> x.make(0, 1, 1, 2, 1));
        due.fails(Due.ARGUMENT, "P9 a pattern for no field", () -> x.make(0, 0, NONE, NONE, 0));
        int named = x.name(2, 1);
        int other = x.name(2, 0);
        int third = x.name(1, 0);
        due.fails(Due.ARGUMENT, "P9 a name twice", () -> x.make(0, 1, named, other, 0));
        due.fails(Due.ARGUMENT, "P9 a name twice, apart", () -> x.make(0, 1, named, 0, other));
        due.fails(Due.ARGUMENT, "P9 a name twice behind", () -> x.make(0, 1, 0, third, third));
        due.is("P9 two names", () -> x.make(0, 1, named, third, 0), 9);
    }

    private static void depthAndSize() {
        Patternforge x = new Patternforge();
        x.constructor(0, 3, 0, 0, 0);
        x.constructor(0, 1, SEQUENCE, 0, 0);
        int any = x.any();
        int two = x.make(0, 0, any, any, any);
        int three = x.make(0, 0, any, two, any);
        due.is("P9 a depth of 4", () -> x.make(0, 0, any, any, three), 3);
        due.fails(Due.ARGUMENT, "P9 a depth of 5", () -> x.make(0, 0, 3, any, any));
        due.is("P7 a name adds no depth", () -> x.name(0, 3), 4);
        due.is("P10 alternatives add no depth", () -> x.either(3, 3), 5);
        due.fails(Due.ARGUMENT, "P9 a depth of 5 by alternatives", () -> x.make(0, 0, any, 5, any));
        int list = x.list(1, any, NONE, 0);
        int listed = x.make(0, 1, list, NONE, NONE);
        due.is("P9 a list in two", () -> x.make(0, 0, listed, any, any), 8);
        due.fails(Due.ARGUMENT, "P9 a list in four", () -> x.make(0, 0, 3, 8, any));
        due.is("P9 a constructor without fields has depth 1", () -> x.constructor(1, 0, 0, 0, 0), 0);
        int seen = x.view(0, any);
        due.is("P11 a view adds no depth", () -> x.make(0, 0, seen, three, any), 10);
        int wide = x.make(0, 0, two, two, two);
        due.is("P9 a size of 40", () -> x.make(0, 0, wide, wide, wide), 12);
        due.fails(Due.ARGUMENT, "P7 a size of 41", () -> x.name(0, 12));
        due.fails(Due.ARGUMENT, "P10 a size above 40", () -> x.either(12, any));
        int more = x.make(0, 0, two, two, x.make(0, 0, any, any, x.name(1, any)));
        due.fails(Due.ARGUMENT, "P9 a size of 41", () -> x.make(0, 0, wide, wide, more));
        due.is("P9 a size of 32", () -> x.make(0, 0, more, wide, two), 16);
    }

    private static void either() {
        Patternforge x = new Patternforge();
        x.constructor(0, 1, NUMBER, 0, 0);
        x.constructor(1, 0, 0, 0, 0);
        int any = x.any();
        int low = x.range(0, 4);
        int list = x.list(0, NONE, NONE, 1);
        int zero = x.make(0, 0, any, NONE, NONE);
        int one = x.make(1, 0, NONE, NONE, NONE);
        due.is("P10 any and a range", () -> x.either(any, low), 5);
        for (int wrong : new int[] {-1, 6, TOP, LOW}) {
            due.fails(Due.INDEX, "P10 first " + wrong, () -> x.either(wrong, 0));
            due.fails(Due.INDEX, "P10 second " + wrong, () -> x.either(0, wrong));
        }
        due.fails(Due.ARGUMENT, "P10 a range and a list", () -> x.either(low, list));
        due.fails(Due.ARGUMENT, "P10 two types", () -> x.either(zero, one));
        due.fails(Due.ARGUMENT, "P10 a type and a number", () -> x.either(zero, low));
        due.fails(Due.ARGUMENT, "P10 the kind of the first one", () -> x.either(5, list));
        due.is("P10 the other order", () -> x.either(low, any), 6);
        due.fails(Due.ARGUMENT, "P10 the kind of the second one", () -> x.either(list, 6));
        int named = x.name(0, low);
        int other = x.name(1, low);
        due.fails(Due.ARGUMENT, "P10 a name and none", () -> x.either(named, low));
        due.fails(Due.ARGUMENT, "P10 none and a name", () -> x.either(low, named));
        due.fails(Due.ARGUMENT, "P10 unlike names", () -> x.either(named, other));
        due.is("P10 the same name", () -> x.either(named, x.name(0, any)), 10);
        due.fails(Due.ARGUMENT, "P10 binds its name", () -> x.name(0, 10));
    }

    /** A pattern of an odd size: any in names would be bound twice, so alternatives of any. */
    private static int upTo(Patternforge x, int size) {
        int any = x.any();
        int pattern = any;
        for (int i = 1; i < size; i += 2) {
            pattern = x.either(pattern, any);
        }
        return pattern;
    }

    private static void view() {
        Patternforge x = new Patternforge();
        x.constructor(0, 0, 0, 0, 0);
        int any = x.any();
        int low = x.range(0, 4);
        int both = x.either(any, low);
        due.is("P11 view(0, any)", () -> x.view(0, any), 3);
        due.is("P11 view(2, alternatives)", () -> x.view(2, both), 4);
        for (int wrong : new int[] {-1, 3, TOP, LOW}) {
            due.fails(Due.INDEX, "P11 view " + wrong, () -> x.view(wrong, 0));
        }
        for (int wrong : new int[] {-1, 5, TOP, LOW}) {
            due.fails(Due.INDEX, "P11 pattern " + wrong, () -> x.view(0, wrong));
        }
        due.fails(Due.ARGUMENT, "P11 a view", () -> x.view(0, 3));
        due.fails(Due.ARGUMENT, "P11 a name", () -> x.view(0, x.name(0, any)));
        due.fails(Due.ARGUMENT, "P11 a constructor", () -> x.view(0, x.make(0, 0, NONE, NONE, NONE)));
        due.fails(Due.ARGUMENT, "P11 a list", () -> x.view(0, x.list(0, NONE, NONE, 0)));
        int inside = x.either(any, 3);
        due.fails(Due.ARGUMENT, "P11 a view in alternatives", () -> x.view(0, inside));
        int large = x.either(upTo(x, 19), upTo(x, 19));
        due.is("P11 a size of 40", () -> x.view(0, large), large + 1);
        due.fails(Due.ARGUMENT, "P7 a size of 41", () -> x.name(0, large + 1));
        due.is("P11 fits any kind", () -> x.either(3, x.list(0, NONE, NONE, 0)), large + 3);
    }

    private static void list() {
        Patternforge x = new Patternforge();
        int any = x.any();
        int low = x.range(0, 4);
        due.is("P12 without patterns", () -> x.list(0, NONE, NONE, Patternforge.NO_REST), 2);
        due.is("P12 with one", () -> x.list(1, low, NONE, Patternforge.AT_END), 3);
        due.is("P12 with two", () -> x.list(2, any, low, Patternforge.AT_BEGIN), 4);
        for (int wrong : new int[] {-1, 3, TOP, LOW}) {
            due.fails(Due.ARGUMENT, "P12 many " + wrong, () -> x.list(wrong, 99, 99, 0));
            due.fails(Due.INDEX, "P12 rest " + wrong, () -> x.list(1, low, NONE, wrong));
            due.fails(Due.INDEX, "P12 rest, and many, " + wrong, () -> x.list(wrong, low, NONE, wrong));
        }
        for (int wrong : new int[] {-1, 5, TOP, LOW}) {
            due.fails(Due.INDEX, "P12 first " + wrong, () -> x.list(1, wrong, NONE, 0));
            due.fails(Due.INDEX, "P12 second " + wrong, () -> x.list(2, 2, wrong, 0));
            if (wrong != NONE) {
                due.fails(Due.ARGUMENT, "P12 no first, and " + wrong, () -> x.list(0, wrong, NONE, 0));
                due.fails(Due.ARGUMENT, "P12 no second, and " + wrong, () -> x.list(1, low, wrong, 0));
            }
        }
        due.fails(Due.ARGUMENT, "P12 a list in a list", () -> x.list(1, 2, NONE, 0));
        int named = x.name(0, low);
        due.fails(Due.ARGUMENT, "P12 a name twice", () -> x.list(2, named, named, 0));
        due.is("P12 two names", () -> x.list(2, named, x.name(1, any), 0), 7);
        due.is("P12 a view fits numbers", () -> x.list(1, x.view(0, any), NONE, 0), 9);
        int large = x.either(upTo(x, 19), upTo(x, 17));
        due.is("P12 a size of 40", () -> x.list(2, large, x.name(1, any), 0), large + 2);
        int larger = x.either(large, any);
        due.fails(Due.ARGUMENT, "P12 a size of 41", () -> x.list(2, larger, any, 0));
        lengths();
    }

    /** Lists of 0 to 2 patterns and each rest, held against lengths 0 to 3. */
    private static void lengths() {
        int[] lengths = {0, 1, 2, 3};
        for (int many = 0; many <= 2; many++) {
            for (int rest = 0; rest <= 2; rest++) {
                Patternforge x = new Patternforge();
                int one = x.range(1, 1), two = x.range(2, 2);
                int list = x.list(many, many > 0 ? one : NONE, many > 1 ? two : NONE, rest);
                x.begin(1, SEQUENCE, 0, 0);
                x.add(list, NONE, NONE, 5);
                for (int length : lengths) {
                    // Ahead, or behind, of what is no rest stand nines.
                    int[] n = new int[3];
                    for (int i = 0; i < length; i++) {
                        int index = rest == Patternforge.AT_BEGIN ? i - (length - many) : i;
                        n[i] = index >= 0 && index < many ? index + 1 : 9;
                    }
                    int value = x.seq(length, n[0], n[1], n[2]);
                    boolean fits = rest == Patternforge.NO_REST ? length == many : length >= many;
                    for (int engine = 0; engine < 4; engine++) {
                        int e = engine;
                        if (e < 2 || x.size(e, false) > 0) {
                            due.is("P12 " + many + " with rest " + rest + " of " + length + " by " + e,
                                    () -> x.run(e, value, NONE, NONE), fits ? 5 : -1);
                        }
                    }
                    due.is("P12 tests", () -> x.tests(), fits ? 1 + many : 1);
                }
            }
        }
    }

    /** The numbers 1, 0, 0 and 10: a view gives the last digit of the measure. */
    private static void viewsAtFirst() {
        Patternforge x = new Patternforge();
        int any = x.any();
        x.seq(3, 7, 0, 6);
        x.num(8);
        x.begin(2, SEQUENCE, NUMBER, 0);
        x.add(x.either(x.view(0, x.range(3, 3)), x.view(1, any)), x.view(2, any), NONE, 1);
        for (int engine = 0; engine < 2; engine++) {
            x.run(engine, 0, 1, NONE);
            due.is("P13 view 0 at first", () -> x.viewAt(0), 10 + 2);
            due.is("P13 view 1 at first", () -> x.viewAt(1), 100010 + 2);
            due.is("P13 view 2 at first", () -> x.viewAt(2), 200020 + 8);
        }
    }

    private static void setView() {
        Patternforge x = new Patternforge();
        due.is("P13 setView(0, ..., 1)", () -> x.setView(0, -9, -9, -9, 1), 10);
        due.is("P13 setView(0, ..., 10)", () -> x.setView(0, 9, 9, 9, 10), 1);
        due.is("P13 setView(2, ..., 7)", () -> x.setView(2, 0, 0, 0, 7), 10);
        for (int wrong : new int[] {-1, 3, TOP, LOW}) {
            due.fails(Due.INDEX, "P13 view " + wrong, () -> x.setView(wrong, 99, 0, 0, 0));
        }
        for (int wrong : new int[] {-10, 10, TOP, LOW}) {
            due.fails(Due.ARGUMENT, "P13 a " + wrong, () -> x.setView(0, wrong, 0, 0, 2));
            due.fails(Due.ARGUMENT, "P13 b " + wrong, () -> x.setView(0, 0, wrong, 0, 2));
            due.fails(Due.ARGUMENT, "P13 c " + wrong, () -> x.setView(0, 0, 0, wrong, 2));
        }
        for (int wrong : new int[] {0, 11, TOP, LOW}) {
            due.fails(Due.ARGUMENT, "P13 m " + wrong, () -> x.setView(0, 0, 0, 0, wrong));
        }
        due.is("P13 nothing has changed", () -> x.setView(0, 0, 0, 0, 5), 10);
        due.is("P13 nor view 1", () -> x.setView(1, 0, 0, 0, 5), 10);
        x.setView(0, -9, 2, -1, 7);
        x.setView(1, 1, -9, 0, 10);
        x.begin(2, NUMBER, NUMBER, 0);
        int any = x.any();
        int zero = x.view(0, any);
        int one = x.view(1, any);
        x.add(zero, one, NONE, 1);
        x.num(8);
        x.run(0, 0, 0, NONE);
        // -9 * 8 - 1 = -73, which is -11 * 7 + 4; 8 - 9 = -1, which is -10 + 9.
        due.is("P13 a negative sum", () -> x.viewAt(0), 14);
        due.is("P13 a sum with one view ahead", () -> x.viewAt(1), 100029);
    }
}
