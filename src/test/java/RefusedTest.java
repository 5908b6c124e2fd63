import java.util.function.Function;

/**
 * What is refused: with its exception, with the one that the throws clause names first where several
 * apply, and with all that is told afterwards as it was. A name of a test begins with its promise.
 */
public final class RefusedTest {
    private static final int NONE = Patternforge.NONE;
    private static final int NUMBER = Patternforge.NUMBER;
    private static final int SEQUENCE = Patternforge.SEQUENCE;
    private static final int TOP = Integer.MAX_VALUE, LOW = Integer.MIN_VALUE;
    private static final int ANY = Standing.ANY, SMALL = Standing.SMALL, BIG = Standing.BIG;

    private static final Standing NEW = Standing.NEW, BARE = Standing.BARE, RICH = Standing.RICH;
    private static final Standing EMPTY = Standing.EMPTY, FULL = Standing.FULL;
    private static final Standing LARGE = Standing.LARGE, WHOLE = Standing.WHOLE;

    private static final Due due = new Due("RefusedTest");

    public static void main(String[] args) {
        states();
        constructor();
        num();
        seq();
        data();
        dataAboveFull();
        any();
        name();
        range();
        make();
        makeTooMuch();
        either();
        view();
        list();
        listTooMuch();
        setView();
        begin();
        add();
        addWithoutMatch();
        guard();
        guardOfWhatIsNoNumber();
        split();
        merge();
        run();
        runWithoutTree();
        told();
        trees();
        due.end();
    }

    private static void index(Standing s, String call, Function<Patternforge, ?> refused) {
        s.refuses(due, Due.INDEX, call, refused);
    }

    private static void argument(Standing s, String call, Function<Patternforge, ?> refused) {
        s.refuses(due, Due.ARGUMENT, call, refused);
    }

    private static void state(Standing s, String call, Function<Patternforge, ?> refused) {
        s.refuses(due, Due.STATE, call, refused);
    }

    /** The numbers beside 0 to below many, and those far away. */
    private static int[] beside(int many) {
        return new int[] {-1, many, TOP, LOW};
    }

    /** The states are what their names say; otherwise the tests below would show nothing. */
    private static void states() {
        Patternforge rich = RICH.make();
        due.holds("P26 something is missing", rich.missing() > 0);
        due.holds("P27 something is known of that", rich.example(2) == 1 && rich.example(11) == 9);
        due.is("P21 a view was run", () -> rich.views(), 1);
        due.holds("P23 a name is bound", rich.bound(0) > 0);
        due.is("P24 a case was taken", () -> rich.taken(1), 1);
        due.is("P3 values", () -> rich.num(0), Standing.VALUES);
        due.is("P6 patterns", () -> rich.any(), Standing.PATTERNS);
        due.is("P14 cases", () -> rich.begin(1, 0, 0, 0), 5);
        Patternforge full = FULL.make();
        due.fails(Due.STATE, "P2 four constructors", () -> full.constructor(2, 0, 0, 0, 0));
        due.fails(Due.STATE, "P3 40 values", () -> full.num(0));
        due.fails(Due.STATE, "P6 60 patterns", () -> full.any());
        due.is("P14 8 cases", () -> full.begin(1, 0, 0, 0), 8);
        Patternforge large = LARGE.make();
        due.is("P25 FIRST is TOO_LARGE", () -> large.size(2, false), Patternforge.TOO_LARGE);
        due.is("P25 MOST is TOO_LARGE", () -> large.size(3, false), Patternforge.TOO_LARGE);
        Patternforge whole = WHOLE.make();
        due.is("P26 nothing is missing", () -> whole.missing(), 0);
        Patternforge bare = BARE.make();
        due.fails(Due.STATE, "P26 no match", () -> bare.missing());
    }

    // ---- promises 2 to 5

    private static void constructor() {
        for (Standing s : new Standing[] {NEW, RICH, FULL}) {
            for (int wrong : beside(4)) {
                index(s, "P2 no such type, " + wrong, x -> x.constructor(wrong, 0, 0, 0, 0));
                index(s, "P2 no such type, ahead of fields, " + wrong, x -> x.constructor(wrong, 4, 0, 0, 0));
                index(s, "P2 no such type, ahead of a kind, " + wrong, x -> x.constructor(wrong, 1, 6, 0, 0));
                index(s, "P2 no such type, ahead of a kind for none, " + wrong, x -> x.constructor(wrong, 0, 1, 0, 0));
                argument(s, "P2 fields " + wrong, x -> x.constructor(1, wrong, 0, 0, 0));
            }
            for (int wrong : beside(6)) {
                argument(s, "P2 the first kind of one, " + wrong, x -> x.constructor(1, 1, wrong, 0, 0));
                argument(s, "P2 the first kind, " + wrong, x -> x.constructor(1, 3, wrong, 0, 0));
                argument(s, "P2 the second kind, " + wrong, x -> x.constructor(1, 3, 0, wrong, 0));
                argument(s, "P2 the third kind, " + wrong, x -> x.constructor(1, 3, 0, 0, wrong));
            }
            for (int other : new int[] {NONE, 1, SEQUENCE, TOP, LOW}) {
                argument(s, "P2 no field, and first " + other, x -> x.constructor(1, 0, other, 0, 0));
                argument(s, "P2 no field, and second " + other, x -> x.constructor(1, 0, 0, other, 0));
                argument(s, "P2 no field, and third " + other, x -> x.constructor(1, 0, 0, 0, other));
                argument(s, "P2 one field, and second " + other, x -> x.constructor(1, 1, 0, other, 0));
                argument(s, "P2 one field, and third " + other, x -> x.constructor(1, 1, 0, 0, other));
                argument(s, "P2 two fields, and third " + other, x -> x.constructor(1, 2, 0, 0, other));
            }
        }
        state(FULL, "P2 the type has 4", x -> x.constructor(2, 0, 0, 0, 0));
        state(RICH, "P2 the type has 4, with fields", x -> x.constructor(2, 3, NUMBER, SEQUENCE, 2));
        argument(RICH, "P2 fields ahead of a type that has 4", x -> x.constructor(2, 4, 0, 0, 0));
        argument(RICH, "P2 a kind ahead of a type that has 4", x -> x.constructor(2, 1, 6, 0, 0));
        argument(RICH, "P2 a kind for no field ahead of a type that has 4", x -> x.constructor(2, 0, 0, 0, 1));
    }

    private static void num() {
        for (Standing s : new Standing[] {NEW, RICH, FULL}) {
            for (int wrong : beside(10)) argument(s, "P3 num(" + wrong + ")", x -> x.num(wrong));
        }
        for (int i = 0; i < 10; i++) {
            int number = i;
            state(FULL, "P3 there are 40 values, num(" + i + ")", x -> x.num(number));
        }
    }

    private static void seq() {
        for (Standing s : new Standing[] {NEW, RICH, FULL}) {
            for (int wrong : beside(4)) argument(s, "P4 length " + wrong, x -> x.seq(wrong, 0, 0, 0));
            for (int wrong : beside(10)) {
                argument(s, "P4 the first one of one, " + wrong, x -> x.seq(1, wrong, 0, 0));
                argument(s, "P4 the second one of two, " + wrong, x -> x.seq(2, 0, wrong, 0));
                argument(s, "P4 the first one of three, " + wrong, x -> x.seq(3, wrong, 0, 0));
                argument(s, "P4 the second one of three, " + wrong, x -> x.seq(3, 0, wrong, 0));
                argument(s, "P4 the third one of three, " + wrong, x -> x.seq(3, 0, 0, wrong));
            }
            for (int other : new int[] {NONE, 1, 9, TOP, LOW}) {
                argument(s, "P4 no first one, and " + other, x -> x.seq(0, other, 0, 0));
                argument(s, "P4 no numbers, and second " + other, x -> x.seq(0, 0, other, 0));
                argument(s, "P4 no numbers, and third " + other, x -> x.seq(0, 0, 0, other));
                argument(s, "P4 no second one, and " + other, x -> x.seq(1, 0, other, 0));
                argument(s, "P4 one number, and third " + other, x -> x.seq(1, 0, 0, other));
                argument(s, "P4 no third one, and " + other, x -> x.seq(2, 0, 0, other));
            }
        }
        state(FULL, "P4 there are 40 values, length 0", x -> x.seq(0, 0, 0, 0));
        state(FULL, "P4 there are 40 values, length 3", x -> x.seq(3, 9, 9, 9));
    }

    private static void data() {
        int three = Standing.THREE, seq = Standing.TWO_SEQ, cons = Standing.CONS;
        for (int wrong : beside(4)) {
            index(RICH, "P5 no such type, " + wrong, x -> x.data(wrong, 0, NONE, NONE, NONE));
            index(RICH, "P5 no such type, ahead of values for no field, " + wrong, x -> x.data(wrong, 0, 0, 0, 0));
            index(NEW, "P5 no such type, without any, " + wrong, x -> x.data(wrong, 0, NONE, NONE, NONE));
            index(RICH, "P5 no fifth constructor, " + wrong, x -> x.data(2, wrong, NONE, NONE, NONE));
        }
        for (int wrong : beside(2)) {
            index(RICH, "P5 no such constructor, " + wrong, x -> x.data(0, wrong, NONE, NONE, NONE));
            index(RICH, "P5 no such constructor, ahead of values, " + wrong, x -> x.data(0, wrong, 0, 0, 0));
        }
        index(RICH, "P5 a type without constructors", x -> x.data(3, 0, NONE, NONE, NONE));
        index(NEW, "P5 no constructors at all", x -> x.data(0, 0, NONE, NONE, NONE));
        for (int wrong : beside(Standing.VALUES)) {
            index(RICH, "P5 the first value, " + wrong, x -> x.data(1, 0, wrong, seq, cons));
            index(RICH, "P5 the second value, " + wrong, x -> x.data(1, 0, three, wrong, cons));
            index(RICH, "P5 the third value, " + wrong, x -> x.data(1, 0, three, seq, wrong));
            index(RICH, "P5 a value ahead of a kind, " + wrong, x -> x.data(1, 0, seq, three, wrong));
            index(RICH, "P5 a value ahead of one for no field, " + wrong, x -> x.data(0, 1, three, wrong, cons));
            if (wrong == NONE) continue;
            argument(RICH, "P5 no first field, and " + wrong, x -> x.data(0, 0, wrong, NONE, NONE));
            argument(RICH, "P5 no second field, and " + wrong, x -> x.data(0, 0, NONE, wrong, NONE));
            argument(RICH, "P5 no third field, and " + wrong, x -> x.data(0, 1, three, cons, wrong));
        }
        argument(RICH, "P5 no first field, and one that is there", x -> x.data(0, 0, three, NONE, NONE));
        argument(RICH, "P5 no second field, and one that is there", x -> x.data(2, 3, NONE, three, NONE));
        argument(RICH, "P5 no third field, and one that is there", x -> x.data(0, 1, three, cons, cons));
        argument(RICH, "P5 a sequence for a number", x -> x.data(1, 0, seq, seq, cons));
        argument(RICH, "P5 a type for a number", x -> x.data(1, 0, cons, seq, cons));
        argument(RICH, "P5 a number for a sequence", x -> x.data(1, 0, three, three, cons));
        argument(RICH, "P5 a type for a sequence", x -> x.data(1, 0, three, cons, cons));
        argument(RICH, "P5 a number for a type", x -> x.data(1, 0, three, seq, three));
        argument(RICH, "P5 a sequence for a type", x -> x.data(1, 0, three, seq, seq));
        argument(RICH, "P5 another type", x -> x.data(1, 0, three, seq, Standing.MIXED));
    }

    private static void dataAboveFull() {
        state(FULL, "P5 there are 40 values, without fields", x -> x.data(0, 0, NONE, NONE, NONE));
        state(FULL, "P5 there are 40 values, of the 40th one", x -> x.data(0, 1, 39, Standing.NIL, NONE));
        index(FULL, "P5 a type ahead of 40 values", x -> x.data(4, 0, NONE, NONE, NONE));
        index(FULL, "P5 a constructor ahead of 40 values", x -> x.data(0, 2, NONE, NONE, NONE));
        index(FULL, "P5 a value ahead of 40 values", x -> x.data(0, 1, 40, Standing.NIL, NONE));
        index(FULL, "P5 NONE ahead of 40 values", x -> x.data(0, 1, 0, NONE, NONE));
        argument(FULL, "P5 a kind ahead of 40 values", x -> x.data(0, 1, Standing.NIL, Standing.NIL, NONE));
        argument(FULL, "P5 no field, ahead of 40 values", x -> x.data(0, 0, NONE, NONE, 40));
    }

    // ---- promises 6 to 13

    private static void any() {
        state(FULL, "P6 there are 60", x -> x.any());
    }

    private static void name() {
        for (Standing s : new Standing[] {NEW, RICH, FULL}) {
            int there = s == NEW ? 0 : s == RICH ? Standing.PATTERNS : 60;
            for (int wrong : beside(6)) {
                index(s, "P7 no such name, " + wrong, x -> x.name(wrong, ANY));
                index(s, "P7 no such name, ahead of a size, " + wrong, x -> x.name(wrong, Standing.SIZE_40));
            }
            for (int wrong : beside(there)) index(s, "P7 no such pattern, " + wrong, x -> x.name(5, wrong));
        }
        argument(RICH, "P7 the pattern binds it", x -> x.name(0, Standing.SMALL_NAMED));
        argument(RICH, "P7 a field binds it", x -> x.name(0, Standing.MAKE_SMALL));
        argument(RICH, "P7 both alternatives bind it", x -> x.name(0, Standing.MAKE_EITHER));
        argument(RICH, "P7 the name of a large one", x -> x.name(2, Standing.SIZE_40));
        argument(RICH, "P7 a size of 41", x -> x.name(0, Standing.SIZE_40));
        state(FULL, "P7 there are 60", x -> x.name(0, ANY));
        state(FULL, "P7 there are 60, a size of 40", x -> x.name(0, Standing.SIZE_39));
        argument(FULL, "P7 a bound name ahead of 60", x -> x.name(0, Standing.SMALL_NAMED));
        argument(FULL, "P7 a size ahead of 60", x -> x.name(0, Standing.SIZE_40));
    }

    private static void range() {
        for (Standing s : new Standing[] {NEW, RICH, FULL}) {
            for (int wrong : beside(10)) {
                argument(s, "P8 from " + wrong, x -> x.range(wrong, 9));
                argument(s, "P8 to " + wrong, x -> x.range(0, wrong));
                argument(s, "P8 from and to " + wrong, x -> x.range(wrong, wrong));
            }
            for (int i = 1; i < 10; i++) {
                int from = i;
                argument(s, "P8 to is below from " + i, x -> x.range(from, from - 1));
            }
            argument(s, "P8 range(9, 0)", x -> x.range(9, 0));
        }
        state(FULL, "P8 there are 60, range(0, 0)", x -> x.range(0, 0));
        state(FULL, "P8 there are 60, range(9, 9)", x -> x.range(9, 9));
    }

    private static void make() {
        int list = Standing.SMALL_LIST, nil = Standing.MAKE_NIL;
        for (int wrong : beside(4)) {
            index(RICH, "P9 no such type, " + wrong, x -> x.make(wrong, 0, NONE, NONE, NONE));
            index(RICH, "P9 no such type, ahead of patterns for no field, " + wrong, x -> x.make(wrong, 0, 0, 0, 0));
            index(NEW, "P9 no such type, without any, " + wrong, x -> x.make(wrong, 0, NONE, NONE, NONE));
            index(RICH, "P9 no fifth constructor, " + wrong, x -> x.make(2, wrong, NONE, NONE, NONE));
        }
        for (int wrong : beside(2)) {
            index(RICH, "P9 no such constructor, " + wrong, x -> x.make(0, wrong, NONE, NONE, NONE));
            index(RICH, "P9 no such constructor, ahead of patterns, " + wrong, x -> x.make(0, wrong, 0, 0, 0));
        }
        index(RICH, "P9 a type without constructors", x -> x.make(3, 0, NONE, NONE, NONE));
        index(NEW, "P9 no constructors at all", x -> x.make(0, 0, NONE, NONE, NONE));
        for (int wrong : beside(Standing.PATTERNS)) {
            index(RICH, "P9 the first pattern, " + wrong, x -> x.make(1, 0, wrong, list, nil));
            index(RICH, "P9 the second pattern, " + wrong, x -> x.make(1, 0, SMALL, wrong, nil));
            index(RICH, "P9 the third pattern, " + wrong, x -> x.make(1, 0, SMALL, list, wrong));
            index(RICH, "P9 a pattern ahead of a kind, " + wrong, x -> x.make(1, 0, list, SMALL, wrong));
            index(RICH, "P9 a pattern ahead of one for no field, " + wrong, x -> x.make(0, 1, SMALL, wrong, nil));
            index(RICH, "P9 a pattern ahead of a depth, " + wrong, x -> x.make(1, 0, wrong, list, Standing.DEPTH_4));
            index(RICH, "P9 a pattern ahead of a name, " + wrong,
                    x -> x.make(1, 0, Standing.SMALL_NAMED, wrong, Standing.MAKE_SMALL));
            if (wrong == NONE) continue;
            argument(RICH, "P9 no first field, and " + wrong, x -> x.make(0, 0, wrong, NONE, NONE));
            argument(RICH, "P9 no second field, and " + wrong, x -> x.make(0, 0, NONE, wrong, NONE));
            argument(RICH, "P9 no third field, and " + wrong, x -> x.make(0, 1, SMALL, nil, wrong));
        }
        argument(RICH, "P9 no first field, and one that is there", x -> x.make(0, 0, ANY, NONE, NONE));
        argument(RICH, "P9 no second field, and one that is there", x -> x.make(2, 3, NONE, ANY, NONE));
        argument(RICH, "P9 no third field, and one that is there", x -> x.make(0, 1, SMALL, nil, ANY));
        argument(RICH, "P9 a list for a number", x -> x.make(1, 0, list, list, nil));
        argument(RICH, "P9 a constructor for a number", x -> x.make(1, 0, nil, list, nil));
        argument(RICH, "P9 a range for a sequence", x -> x.make(1, 0, SMALL, SMALL, nil));
        argument(RICH, "P9 a constructor for a sequence", x -> x.make(1, 0, SMALL, nil, nil));
        argument(RICH, "P9 a range for a type", x -> x.make(1, 0, SMALL, list, SMALL));
        argument(RICH, "P9 a list for a type", x -> x.make(1, 0, SMALL, list, list));
        argument(RICH, "P9 alternatives of another type", x -> x.make(1, 0, Standing.MAKE_EITHER, list, nil));
    }

    private static void makeTooMuch() {
        int small = Standing.SMALL_NAMED, deep = Standing.DEPTH_4;
        argument(RICH, "P9 two bind the same name", x -> x.make(0, 1, small, Standing.MAKE_SMALL, NONE));
        argument(RICH, "P9 first and third bind the same name", x -> x.make(1, 0, small, ANY, Standing.MAKE_EITHER));
        argument(RICH, "P9 a depth of 5", x -> x.make(0, 1, ANY, deep, NONE));
        argument(RICH, "P9 a depth of 5 by the third field", x -> x.make(1, 0, ANY, ANY, deep));
        argument(RICH, "P9 a size of 41", x -> x.make(0, 1, Standing.SIZE_39, ANY, NONE));
        argument(RICH, "P9 a size of 42", x -> x.make(0, 1, ANY, Standing.SIZE_40, NONE));
        argument(RICH, "P9 a size of 40 thrice", x -> x.make(1, 0, Standing.SIZE_39, Standing.SIZE_39, Standing.SIZE_39));
        state(FULL, "P9 there are 60", x -> x.make(0, 0, NONE, NONE, NONE));
        state(FULL, "P9 there are 60, with fields", x -> x.make(0, 1, 59, 59, NONE));
        index(FULL, "P9 a type ahead of 60", x -> x.make(4, 0, NONE, NONE, NONE));
        index(FULL, "P9 a constructor ahead of 60", x -> x.make(0, 2, NONE, NONE, NONE));
        index(FULL, "P9 a pattern ahead of 60", x -> x.make(0, 1, ANY, 60, NONE));
        index(FULL, "P9 NONE ahead of 60", x -> x.make(0, 1, NONE, ANY, NONE));
        argument(FULL, "P9 a kind ahead of 60", x -> x.make(0, 1, ANY, SMALL, NONE));
        argument(FULL, "P9 no field, ahead of 60", x -> x.make(0, 0, NONE, 60, NONE));
        argument(FULL, "P9 a name ahead of 60", x -> x.make(0, 1, small, Standing.MAKE_SMALL, NONE));
        argument(FULL, "P9 a depth ahead of 60", x -> x.make(0, 1, ANY, deep, NONE));
        argument(FULL, "P9 a size ahead of 60", x -> x.make(0, 1, Standing.SIZE_39, ANY, NONE));
    }

    private static void either() {
        int nil = Standing.MAKE_NIL, list = Standing.SMALL_LIST;
        for (Standing s : new Standing[] {NEW, RICH, FULL}) {
            int there = s == NEW ? 0 : s == RICH ? Standing.PATTERNS : 60;
            for (int wrong : beside(there)) {
                index(s, "P10 the first one, " + wrong, x -> x.either(wrong, ANY));
                index(s, "P10 the second one, " + wrong, x -> x.either(ANY, wrong));
                index(s, "P10 both, " + wrong, x -> x.either(wrong, wrong));
                index(s, "P10 the first one, ahead of a size, " + wrong, x -> x.either(wrong, Standing.SIZE_40));
                index(s, "P10 the second one, ahead of a name, " + wrong, x -> x.either(Standing.SMALL_NAMED, wrong));
            }
        }
        int[][] unlike = {{SMALL, nil}, {nil, SMALL}, {SMALL, list}, {list, SMALL}, {nil, list}, {list, nil},
            {Standing.EITHER, nil}, {nil, Standing.EITHER}};
        for (int[] pair : unlike) {
            argument(RICH, "P10 unlike kinds, " + pair[0] + " " + pair[1], x -> x.either(pair[0], pair[1]));
            argument(FULL, "P10 unlike kinds, ahead of 60, " + pair[0] + " " + pair[1], x -> x.either(pair[0], pair[1]));
        }
        int[][] named = {{Standing.SMALL_NAMED, SMALL}, {SMALL, Standing.SMALL_NAMED}, {Standing.OTHER_NAMED, ANY},
            {Standing.OTHER_NAMED, Standing.SMALL_NAMED}, {Standing.MAKE_EITHER, nil}, {nil, Standing.MAKE_BIG}};
        for (int[] pair : named) {
            argument(RICH, "P10 unlike names, " + pair[0] + " " + pair[1], x -> x.either(pair[0], pair[1]));
            argument(FULL, "P10 unlike names, ahead of 60, " + pair[0] + " " + pair[1], x -> x.either(pair[0], pair[1]));
        }
        argument(RICH, "P10 a size of 41", x -> x.either(Standing.SIZE_39, ANY));
        argument(RICH, "P10 a size of 41, the second one", x -> x.either(ANY, Standing.SIZE_39));
        argument(RICH, "P10 a size of 81", x -> x.either(Standing.SIZE_40, Standing.SIZE_40));
        argument(FULL, "P10 a size ahead of 60", x -> x.either(Standing.SIZE_39, ANY));
        state(FULL, "P10 there are 60", x -> x.either(ANY, ANY));
        state(FULL, "P10 there are 60, of the 60th", x -> x.either(59, SMALL));
    }

    private static void view() {
        for (Standing s : new Standing[] {NEW, RICH, FULL}) {
            int there = s == NEW ? 0 : s == RICH ? Standing.PATTERNS : 60;
            for (int wrong : beside(3)) {
                index(s, "P11 no such view, " + wrong, x -> x.view(wrong, ANY));
                index(s, "P11 no such view, ahead of a name, " + wrong, x -> x.view(wrong, Standing.SMALL_NAMED));
                index(s, "P11 no such view, ahead of a size, " + wrong, x -> x.view(wrong, Standing.SIZE_40));
            }
            for (int wrong : beside(there)) index(s, "P11 no such pattern, " + wrong, x -> x.view(2, wrong));
        }
        for (Standing s : new Standing[] {RICH, FULL}) {
            argument(s, "P11 a name in it", x -> x.view(0, Standing.SMALL_NAMED));
            argument(s, "P11 a name of any in it", x -> x.view(0, Standing.OTHER_NAMED));
            argument(s, "P11 a view in it", x -> x.view(0, Standing.VIEW_1));
            argument(s, "P11 the same view in it", x -> x.view(0, Standing.VIEW_0));
            argument(s, "P11 a constructor in it", x -> x.view(0, Standing.MAKE_NIL));
            argument(s, "P11 alternatives of constructors in it", x -> x.view(0, Standing.MAKE_EITHER));
            argument(s, "P11 a list in it", x -> x.view(0, Standing.NO_LIST));
            argument(s, "P11 another list in it", x -> x.view(0, Standing.SMALL_LIST));
        }
        viewsInAlternatives();
        state(FULL, "P11 there are 60", x -> x.view(0, ANY));
        state(FULL, "P11 there are 60, a size of 40", x -> x.view(2, Standing.SIZE_39));
    }

    /** What may not be in the pattern of a view may not be in an alternative of it; and sizes. */
    private static void viewsInAlternatives() {
        int[] parts = {Standing.VIEW_0, Standing.NO_LIST, Standing.MAKE_NIL};
        for (int part : parts) {
            Patternforge x = RICH.make();
            int first = x.either(part, ANY), second = x.either(ANY, part), within = x.either(ANY, x.either(second, ANY));
            due.fails(Due.ARGUMENT, "P11 in the first alternative, " + part, () -> x.view(0, first));
            due.fails(Due.ARGUMENT, "P11 in the second alternative, " + part, () -> x.view(0, second));
            due.fails(Due.ARGUMENT, "P11 within alternatives, " + part, () -> x.view(0, within));
            due.is("P11 none of these was made, " + part, () -> x.any(), within + 1);
        }
        // Any, ranges and alternatives of them have odd sizes: 39 is the most, and 40 that of its view.
        Patternforge x = RICH.make();
        int named = x.either(Standing.BIG_NAMED, Standing.SMALL_NAMED);
        due.fails(Due.ARGUMENT, "P11 names in both alternatives", () -> x.view(0, named));
        int seen = x.view(1, Standing.SIZE_39);
        due.is("P11 a size of 40 is made", () -> seen, named + 1);
        due.fails(Due.ARGUMENT, "P7 a view of size 40", () -> x.name(5, seen));
        due.fails(Due.ARGUMENT, "P11 a view of size 40 in a view", () -> x.view(2, seen));
    }

    private static void list() {
        for (Standing s : new Standing[] {NEW, RICH, FULL}) {
            int there = s == NEW ? 0 : s == RICH ? Standing.PATTERNS : 60;
            for (int wrong : beside(3)) {
                index(s, "P12 no such rest, " + wrong, x -> x.list(0, NONE, NONE, wrong));
                index(s, "P12 no such rest, ahead of many, " + wrong, x -> x.list(3, NONE, NONE, wrong));
                index(s, "P12 no such rest, ahead of one for none, " + wrong, x -> x.list(0, 0, NONE, wrong));
                argument(s, "P12 many " + wrong, x -> x.list(wrong, NONE, NONE, 0));
                argument(s, "P12 many, with patterns, " + wrong, x -> x.list(wrong, ANY, ANY, 1));
            }
            for (int wrong : beside(there)) {
                index(s, "P12 the first of one, " + wrong, x -> x.list(1, wrong, NONE, 2));
                index(s, "P12 the first of two, " + wrong, x -> x.list(2, wrong, ANY, 0));
                index(s, "P12 the second of two, " + wrong, x -> x.list(2, ANY, wrong, 1));
                if (wrong == NONE) continue;
                argument(s, "P12 no first one, and " + wrong, x -> x.list(0, wrong, NONE, 0));
                argument(s, "P12 none, and second " + wrong, x -> x.list(0, NONE, wrong, 0));
            }
        }
        for (int wrong : beside(Standing.PATTERNS)) {
            index(RICH, "P12 a pattern ahead of a kind, " + wrong, x -> x.list(2, Standing.NO_LIST, wrong, 0));
            index(RICH, "P12 a pattern ahead of one for none, " + wrong, x -> x.list(1, wrong, ANY, 0));
            if (wrong != NONE) argument(RICH, "P12 no second one, and " + wrong, x -> x.list(1, ANY, wrong, 0));
        }
        argument(RICH, "P12 none, and one that is there", x -> x.list(0, ANY, NONE, 0));
        argument(RICH, "P12 one, and another one that is there", x -> x.list(1, ANY, ANY, 2));
    }

    private static void listTooMuch() {
        for (Standing s : new Standing[] {RICH, FULL}) {
            for (int other : new int[] {Standing.NO_LIST, Standing.SMALL_LIST, Standing.MAKE_NIL, Standing.MAKE_EITHER}) {
                argument(s, "P12 the first does not fit numbers, " + other, x -> x.list(1, other, NONE, 0));
                argument(s, "P12 the second does not fit numbers, " + other, x -> x.list(2, ANY, other, 0));
                index(s, "P12 a rest ahead of what does not fit, " + other, x -> x.list(1, other, NONE, 3));
            }
            argument(s, "P12 both bind the same name", x -> x.list(2, Standing.SMALL_NAMED, Standing.BIG_NAMED, 0));
            argument(s, "P12 both are the same one", x -> x.list(2, Standing.OTHER_NAMED, Standing.OTHER_NAMED, 2));
            argument(s, "P12 a size of 41", x -> x.list(1, Standing.SIZE_40, NONE, 1));
            argument(s, "P12 a size of 41, of two", x -> x.list(2, Standing.SIZE_39, ANY, 1));
            argument(s, "P12 a size of 42, of two", x -> x.list(2, ANY, Standing.SIZE_40, 1));
            index(s, "P12 a rest ahead of a size", x -> x.list(1, Standing.SIZE_40, NONE, -1));
            index(s, "P12 a rest ahead of a name", x -> x.list(2, Standing.OTHER_NAMED, Standing.OTHER_NAMED, -1));
        }
        state(FULL, "P12 there are 60", x -> x.list(0, NONE, NONE, 0));
        state(FULL, "P12 there are 60, with two", x -> x.list(2, 59, SMALL, 2));
        state(FULL, "P12 there are 60, a size of 40", x -> x.list(1, Standing.SIZE_39, NONE, 1));
    }

    private static void setView() {
        for (Standing s : new Standing[] {NEW, RICH, FULL, LARGE}) {
            for (int wrong : beside(3)) {
                index(s, "P13 no such view, " + wrong, x -> x.setView(wrong, 0, 0, 0, 5));
                index(s, "P13 no such view, ahead of a, " + wrong, x -> x.setView(wrong, 10, 0, 0, 5));
                index(s, "P13 no such view, ahead of m, " + wrong, x -> x.setView(wrong, 0, 0, 0, 0));
            }
            for (int wrong : new int[] {-10, 10, TOP, LOW}) {
                argument(s, "P13 a " + wrong, x -> x.setView(0, wrong, 1, 1, 9));
                argument(s, "P13 b " + wrong, x -> x.setView(1, 1, wrong, 1, 9));
                argument(s, "P13 c " + wrong, x -> x.setView(2, 1, 1, wrong, 9));
            }
            for (int wrong : new int[] {0, -1, 11, TOP, LOW}) {
                argument(s, "P13 m " + wrong, x -> x.setView(0, -9, -9, -9, wrong));
            }
        }
    }

    // ---- promises 14 to 18

    private static void begin() {
        for (Standing s : new Standing[] {NEW, BARE, RICH, FULL, LARGE}) {
            for (int wrong : new int[] {0, 4, -1, TOP, LOW}) {
                argument(s, "P14 columns " + wrong, x -> x.begin(wrong, 0, 0, 0));
            }
            for (int wrong : beside(6)) {
                argument(s, "P14 the first of one, " + wrong, x -> x.begin(1, wrong, 0, 0));
                argument(s, "P14 the second of two, " + wrong, x -> x.begin(2, NUMBER, wrong, 0));
                argument(s, "P14 the first of three, " + wrong, x -> x.begin(3, wrong, 0, 0));
                argument(s, "P14 the second of three, " + wrong, x -> x.begin(3, 0, wrong, 0));
                argument(s, "P14 the third of three, " + wrong, x -> x.begin(3, 0, 0, wrong));
            }
            for (int other : new int[] {NONE, 1, SEQUENCE, TOP, LOW}) {
                argument(s, "P14 one column, and second " + other, x -> x.begin(1, 0, other, 0));
                argument(s, "P14 one column, and third " + other, x -> x.begin(1, 0, 0, other));
                argument(s, "P14 two columns, and third " + other, x -> x.begin(2, 0, 0, other));
            }
        }
    }

    private static void add() {
        int nil = Standing.MAKE_NIL;
        for (int wrong : beside(Standing.PATTERNS)) {
            index(RICH, "P15 the first pattern, " + wrong, x -> x.add(wrong, nil, NONE, 0));
            index(RICH, "P15 the second pattern, " + wrong, x -> x.add(SMALL, wrong, NONE, 0));
            index(EMPTY, "P15 the third pattern, " + wrong, x -> x.add(SMALL, ANY, wrong, 0));
            index(RICH, "P15 a pattern ahead of a kind, " + wrong, x -> x.add(nil, wrong, NONE, 0));
            index(RICH, "P15 a pattern ahead of one for no column, " + wrong, x -> x.add(wrong, nil, ANY, 0));
            index(RICH, "P15 a pattern ahead of a result, " + wrong, x -> x.add(SMALL, wrong, NONE, 100));
            if (wrong != NONE) argument(RICH, "P15 no third column, and " + wrong, x -> x.add(SMALL, nil, wrong, 0));
        }
        for (Standing s : new Standing[] {RICH, FULL}) {
            argument(s, "P15 no third column, and one that is there", x -> x.add(SMALL, nil, ANY, 0));
            argument(s, "P15 a constructor for a number", x -> x.add(nil, nil, NONE, 0));
            argument(s, "P15 a list for a number", x -> x.add(Standing.NO_LIST, nil, NONE, 0));
            argument(s, "P15 a range for a type", x -> x.add(SMALL, SMALL, NONE, 0));
            argument(s, "P15 two bind the same name", x -> x.add(Standing.SMALL_NAMED, Standing.MAKE_SMALL, NONE, 0));
            argument(s, "P15 both are the same one", x -> x.add(Standing.OTHER_NAMED, Standing.OTHER_NAMED, NONE, 0));
            for (int wrong : beside(100)) argument(s, "P15 result " + wrong, x -> x.add(SMALL, nil, NONE, wrong));
        }
        argument(EMPTY, "P15 a range for a sequence", x -> x.add(SMALL, SMALL, ANY, 0));
        argument(EMPTY, "P15 another type", x -> x.add(SMALL, ANY, nil, 0));
        int other = Standing.OTHER_NAMED;
        argument(EMPTY, "P15 first and third bind the same name", x -> x.add(other, ANY, other, 0));
        argument(EMPTY, "P15 second and third bind the same name", x -> x.add(ANY, other, other, 0));
        state(FULL, "P15 it has 8 cases", x -> x.add(SMALL, nil, NONE, 0));
        state(FULL, "P15 it has 8 cases, of any", x -> x.add(ANY, ANY, NONE, 99));
        index(FULL, "P15 a pattern ahead of 8 cases", x -> x.add(60, nil, NONE, 0));
        index(FULL, "P15 NONE ahead of 8 cases", x -> x.add(SMALL, NONE, NONE, 0));
    }

    private static void addWithoutMatch() {
        for (Standing s : new Standing[] {NEW, BARE}) {
            state(s, "P15 there is no match", x -> x.add(NONE, NONE, NONE, 0));
            for (int other : new int[] {ANY, 99, TOP, LOW}) {
                argument(s, "P15 no match, and first " + other, x -> x.add(other, NONE, NONE, 0));
                argument(s, "P15 no match, and second " + other, x -> x.add(NONE, other, NONE, 0));
                argument(s, "P15 no match, and third " + other, x -> x.add(NONE, NONE, other, 0));
            }
            for (int wrong : beside(100)) {
                argument(s, "P15 a result ahead of no match, " + wrong, x -> x.add(NONE, NONE, NONE, wrong));
            }
        }
    }

    private static void guard() {
        for (Standing s : new Standing[] {RICH, FULL}) {
            int cases = s == RICH ? 5 : 8;
            for (int wrong : beside(cases)) {
                index(s, "P16 no such case, " + wrong, x -> x.guard(wrong, 0, 0, 5));
                index(s, "P16 no such case, for no guard, " + wrong, x -> x.guard(wrong, NONE, 0, 5));
                index(s, "P16 no such case, ahead of than, " + wrong, x -> x.guard(wrong, 0, 0, 10));
                index(s, "P16 no such case, ahead of a name for no guard, " + wrong, x -> x.guard(wrong, NONE, 1, 5));
            }
            for (int wrong : new int[] {-2, 4, TOP, LOW}) {
                index(s, "P16 no such guard, " + wrong, x -> x.guard(0, wrong, 0, 5));
                index(s, "P16 no such guard, ahead of than, " + wrong, x -> x.guard(0, wrong, 0, -1));
                index(s, "P16 no such guard, ahead of a name not bound, " + wrong, x -> x.guard(0, wrong, 1, 5));
            }
            for (int wrong : beside(6)) {
                index(s, "P16 no such name, " + wrong, x -> x.guard(0, 0, wrong, 5));
                index(s, "P16 no such name, ahead of than, " + wrong, x -> x.guard(0, 0, wrong, 10));
                index(s, "P16 no such name, for no guard, " + wrong, x -> x.guard(0, NONE, wrong, 5));
            }
            for (int wrong : beside(10)) {
                for (int guard = NONE; guard < 4; guard++) {
                    int g = guard;
                    argument(s, "P16 guard " + g + ", than " + wrong, x -> x.guard(0, g, 0, wrong));
                }
            }
            for (int i = 1; i < 6; i++) {
                int name = i;
                argument(s, "P16 the case does not bind name " + i, x -> x.guard(0, 0, name, 5));
                argument(s, "P16 no guard, and name " + i, x -> x.guard(0, NONE, name, 5));
            }
            argument(s, "P16 the case binds no name", x -> x.guard(3, 0, 0, 5));
        }
        for (Standing s : new Standing[] {NEW, BARE, EMPTY}) {
            index(s, "P16 there are no cases", x -> x.guard(0, NONE, 0, 0));
            index(s, "P16 there are no cases, ahead of than", x -> x.guard(0, 0, 0, 10));
        }
    }

    private static void guardOfWhatIsNoNumber() {
        for (int guard = 0; guard < 4; guard++) {
            int g = guard;
            argument(RICH, "P16 a column of a type, guard " + g, x -> x.guard(2, g, 1, 5));
            argument(WHOLE, "P16 the first column, guard " + g, x -> x.guard(1, g, 1, 5));
        }
    }

    private static void split() {
        for (Standing s : new Standing[] {RICH, FULL}) {
            int cases = s == RICH ? 5 : 8;
            for (int wrong : beside(cases)) {
                index(s, "P17 no such case, " + wrong, x -> x.split(wrong, 0));
            }
            for (int wrong : beside(2)) {
                index(s, "P17 no such column, " + wrong, x -> x.split(1, wrong));
                index(s, "P17 no such column, ahead of a guard, " + wrong, x -> x.split(0, wrong));
                index(s, "P17 no such column, ahead of a range, " + wrong, x -> x.split(3, wrong));
            }
            state(s, "P17 the case has a guard", x -> x.split(0, 0));
            state(s, "P17 a range", x -> x.split(3, 0));
            state(s, "P17 a constructor", x -> x.split(3, 1));
            state(s, "P17 a view", x -> x.split(2, 0));
            state(s, "P17 a name", x -> x.split(2, 1));
        }
        state(WHOLE, "P17 any", x -> x.split(1, 1));
        state(FULL, "P17 there are 8 cases", x -> x.split(1, 0));
        state(FULL, "P17 there are 8 cases, another column", x -> x.split(1, 1));
        state(FULL, "P17 there are 8 cases, the last one", x -> x.split(7, 0));
        for (Standing s : new Standing[] {NEW, BARE, EMPTY}) index(s, "P17 there are no cases", x -> x.split(0, 0));
        splitOfGuardsAndViews();
    }

    /** Alternatives of a case with a guard, and those with a view in them. */
    private static void splitOfGuardsAndViews() {
        Patternforge x = RICH.make();
        x.guard(1, Patternforge.RAISES, 0, 9);
        due.fails(Due.STATE, "P17 alternatives of a case with a guard", () -> x.split(1, 0));
        due.fails(Due.STATE, "P17 those that bind its name", () -> x.split(1, 1));
        due.is("P17 the guard stands", () -> x.guard(1, NONE, 0, 0), Patternforge.RAISES);
        due.is("P17 it is split without", () -> x.split(1, 0), 6);
        int first = x.either(Standing.VIEW_0, ANY), second = x.either(SMALL, Standing.VIEW_1);
        int named = x.either(x.name(0, Standing.VIEW_2), Standing.SMALL_NAMED);
        int[] all = {first, second, named, x.either(x.either(ANY, first), ANY)};
        for (int pattern : all) {
            x.begin(2, NUMBER, NUMBER, 0);
            x.add(Standing.EITHER, pattern, NONE, 1);
            due.fails(Due.STATE, "P17 a view in " + pattern, () -> x.split(0, 1));
            due.is("P17 a view in the other column", () -> x.split(0, 0), 2);
        }
    }

    private static void merge() {
        for (Standing s : new Standing[] {RICH, FULL}) {
            int cases = s == RICH ? 5 : 8;
            for (int wrong : beside(cases)) index(s, "P18 no such case, " + wrong, x -> x.merge(wrong, 0));
            index(s, "P18 the last case", x -> x.merge(cases - 1, 0));
            index(s, "P18 the last case, ahead of unlike patterns", x -> x.merge(cases - 1, 1));
            for (int wrong : beside(2)) {
                index(s, "P18 no such column, " + wrong, x -> x.merge(3, wrong));
                index(s, "P18 no such column, ahead of a guard, " + wrong, x -> x.merge(0, wrong));
                index(s, "P18 no such column, ahead of results, " + wrong, x -> x.merge(2, wrong));
            }
            state(s, "P18 a guard of the first one", x -> x.merge(0, 0));
            state(s, "P18 unlike patterns in another column", x -> x.merge(3, 1));
            state(s, "P18 unlike patterns in both columns", x -> x.merge(1, 0));
            state(s, "P18 unlike results", x -> x.merge(2, 0));
        }
        state(FULL, "P18 there are 60 patterns", x -> x.merge(3, 0));
        state(FULL, "P18 there are 60 patterns, of the same ones", x -> x.merge(6, 1));
        for (Standing s : new Standing[] {NEW, BARE, EMPTY}) index(s, "P18 there are no cases", x -> x.merge(0, 0));
        mergeOfTwo();
    }

    /** Two cases that differ as told; refused, and what stands then is what stood ahead of it. */
    private static void mergeOfTwo() {
        int small = Standing.SMALL_NAMED, big = Standing.BIG_NAMED, other = Standing.OTHER_NAMED;
        int[][] pairs = {
            {SMALL, small}, {small, SMALL}, {other, small},
            {Standing.VIEW_0, ANY}, {ANY, Standing.VIEW_0}, {Standing.VIEW_1, Standing.VIEW_1},
            {Standing.SIZE_39, ANY}, {ANY, Standing.SIZE_39}, {Standing.SIZE_31, Standing.SIZE_15},
        };
        for (int[] pair : pairs) {
            Patternforge x = BARE.make();
            x.begin(2, NUMBER, NUMBER, 0);
            x.add(pair[0], ANY, NONE, 1);
            x.add(pair[1], ANY, NONE, 1);
            String what = "P18 " + pair[0] + " and " + pair[1] + ": ";
            due.fails(Due.STATE, what + "refused", () -> x.merge(0, 0));
            due.is(what + "two cases", () -> x.taken(1), 0);
            due.is(what + "no pattern", () -> x.any(), Standing.PATTERNS);
            due.is(what + "no case is gone", () -> x.begin(1, 0, 0, 0), 2);
        }
        for (int guarded = 0; guarded < 2; guarded++) {
            int n = guarded;
            Patternforge x = BARE.make();
            x.begin(1, NUMBER, 0, 0);
            x.add(small, NONE, NONE, 1);
            x.add(big, NONE, NONE, 1);
            x.guard(n, Patternforge.LESS, 0, 7);
            due.fails(Due.STATE, "P18 a guard of case " + n, () -> x.merge(0, 0));
            due.is("P18 the guard stands", () -> x.guard(n, NONE, 0, 0), Patternforge.LESS);
            due.is("P18 without it they are merged", () -> x.merge(0, 0), 1);
        }
    }

    // ---- promises 19 to 28

    private static void run() {
        int three = Standing.THREE, cons = Standing.CONS, seq = Standing.TWO_SEQ;
        for (int wrong : beside(4)) {
            index(RICH, "P19 no such engine, " + wrong, x -> x.run(wrong, three, cons, NONE));
            index(RICH, "P19 no such engine, ahead of a kind, " + wrong, x -> x.run(wrong, cons, cons, NONE));
            index(BARE, "P19 no such engine, ahead of no match, " + wrong, x -> x.run(wrong, NONE, NONE, NONE));
            index(BARE, "P19 no such engine, ahead of a value, without a match, " + wrong, x -> x.run(wrong, 0, NONE, NONE));
            index(LARGE, "P19 no such engine, ahead of large trees, " + wrong, x -> x.run(wrong, three, three, three));
        }
        for (int engine = 0; engine < 4; engine++) {
            int e = engine;
            for (int wrong : beside(Standing.VALUES)) {
                index(RICH, "P19 the first value, " + wrong + " by " + e, x -> x.run(e, wrong, cons, NONE));
                index(RICH, "P19 the second value, " + wrong + " by " + e, x -> x.run(e, three, wrong, NONE));
                index(LARGE, "P19 the third value, " + wrong + " by " + e, x -> x.run(e, three, three, wrong));
                index(RICH, "P19 a value ahead of a kind, " + wrong + " by " + e, x -> x.run(e, cons, wrong, NONE));
                index(RICH, "P19 a value ahead of one for no column, " + wrong + " by " + e, x -> x.run(e, wrong, cons, 0));
                if (wrong == NONE) continue;
                argument(RICH, "P19 no third column, and " + wrong + " by " + e, x -> x.run(e, three, cons, wrong));
            }
            argument(RICH, "P19 no third column, and one that is there, by " + e, x -> x.run(e, three, cons, three));
            argument(RICH, "P19 a type for a number by " + e, x -> x.run(e, cons, cons, NONE));
            argument(RICH, "P19 a sequence for a number by " + e, x -> x.run(e, seq, cons, NONE));
            argument(RICH, "P19 a number for a type by " + e, x -> x.run(e, three, three, NONE));
            argument(RICH, "P19 another type by " + e, x -> x.run(e, three, Standing.MIXED, NONE));
            argument(EMPTY, "P19 a number for a sequence by " + e, x -> x.run(e, three, three, Standing.MIXED));
            argument(LARGE, "P19 a sequence as the third one by " + e, x -> x.run(e, three, three, seq));
        }
    }

    private static void runWithoutTree() {
        for (int engine = 0; engine < 4; engine++) {
            int e = engine;
            for (Standing s : new Standing[] {NEW, BARE}) {
                state(s, "P19 there is no match, by " + e, x -> x.run(e, NONE, NONE, NONE));
                for (int other : new int[] {Standing.THREE, 99, TOP, LOW}) {
                    argument(s, "P19 no match, and first " + other + " by " + e, x -> x.run(e, other, NONE, NONE));
                    argument(s, "P19 no match, and second " + other + " by " + e, x -> x.run(e, NONE, other, NONE));
                    argument(s, "P19 no match, and third " + other + " by " + e, x -> x.run(e, NONE, NONE, other));
                }
            }
        }
        state(LARGE, "P19 FIRST is TOO_LARGE", x -> x.run(2, Standing.THREE, Standing.EIGHT, Standing.THREE));
        state(LARGE, "P19 MOST is TOO_LARGE", x -> x.run(3, Standing.THREE, Standing.EIGHT, Standing.THREE));
    }

    private static void told() {
        for (Standing s : new Standing[] {NEW, BARE, RICH, EMPTY, FULL, LARGE, WHOLE}) {
            int views = s == RICH || s == FULL || s == WHOLE ? 1 : 0;
            for (int wrong : beside(views)) index(s, "P22 no such view was run, " + wrong, x -> x.viewAt(wrong));
            for (int wrong : beside(6)) index(s, "P23 no such name, " + wrong, x -> x.bound(wrong));
            int cases = s == RICH ? 5 : s == FULL ? 8 : s == LARGE ? 3 : s == WHOLE ? 2 : 0;
            for (int wrong : beside(cases)) {
                index(s, "P24 no such case, " + wrong, x -> x.taken(wrong));
                index(s, "P28 no such case, " + wrong, x -> x.isUsed(wrong));
            }
        }
    }

    private static void trees() {
        for (Standing s : new Standing[] {NEW, BARE, RICH, EMPTY, FULL, LARGE, WHOLE}) {
            for (int wrong : new int[] {Patternforge.PLAIN, Patternforge.AUTOMATON, 4, -1, TOP, LOW}) {
                index(s, "P25 the engine is none of both, " + wrong, x -> x.size(wrong, false));
                index(s, "P25 the engine is none of both, shared, " + wrong, x -> x.size(wrong, true));
            }
        }
        for (Standing s : new Standing[] {NEW, BARE}) {
            for (int engine = 2; engine < 4; engine++) {
                int e = engine;
                state(s, "P25 there is no match, " + e, x -> x.size(e, false));
                state(s, "P25 there is no match, shared, " + e, x -> x.size(e, true));
            }
            state(s, "P26 there is no match", x -> x.missing());
        }
        for (int place : new int[] {1, 0, -1, 6, TOP, LOW}) {
            state(NEW, "P27 there is no match, place " + place, x -> x.example(place));
            state(BARE, "P27 there is no match, place " + place, x -> x.example(place));
            state(LARGE, "P27 the tree is TOO_LARGE, place " + place, x -> x.example(place));
            state(WHOLE, "P27 it has no such leaf, place " + place, x -> x.example(place));
        }
        for (int i = 0; i < 3; i++) {
            int number = i;
            state(LARGE, "P28 the tree is TOO_LARGE, case " + i, x -> x.isUsed(number));
        }
    }
}
