import java.util.Arrays;

/**
 * A compiler of matches. The face tests what it is told, in the order of its throws clauses; the
 * classes inside hold what was told and may rely on it.
 */
public final class Patternforge {
    public static final int NONE = -1;
    public static final int MISSED = -1, RAISED = -2, TOO_LARGE = -3, HOLE = -4;
    public static final int NUMBER = 4, SEQUENCE = 5;
    public static final int NO_REST = 0, AT_END = 1, AT_BEGIN = 2;
    public static final int LESS = 0, SAME = 1, MORE = 2, RAISES = 3;
    public static final int PLAIN = 0, AUTOMATON = 1, FIRST = 2, MOST = 3;

    private static final int TYPES = 4;
    private static final int CONSTRUCTORS = 4;
    private static final int PARTS = 3;
    private static final int COLUMNS = 3;
    private static final int DIGITS = 10;
    private static final int LONGEST = 3;
    private static final int VALUES = 40;
    private static final int PATTERNS = 60;
    private static final int LISTED = 2;
    private static final int DEEPEST = 4;
    private static final int LARGEST = 40;
    private static final int NAMES = 6;
    private static final int VIEWS = 3;
    private static final int FACTOR = 9;
    private static final int CASES = 8;
    private static final int RESULTS = 100;
    private static final int NODES = 500;
    // Column 3, and three times the third part of it: no pattern is deep enough to come further.
    private static final int PLACES = 469;
    // Of those numbers these are places: 3 columns, and 3, 9 and 27 times as many parts.
    private static final int REAL_PLACES = 120;

    private static final int HELD = 0, FAILED = 1, ROSE = 2;

    private final Kinds kinds;
    private final Values values;
    private final Patterns patterns;
    private final Views lenses;
    private final Match match;
    private final Course course;
    private final Plain plain;
    private final Automaton automaton;
    private final Tree firstTree;
    private final Tree mostTree;

    public Patternforge() {
        kinds = new Kinds();
        values = new Values();
        patterns = new Patterns();
        lenses = new Views();
        match = new Match();
        course = new Course(values, lenses, match);
        plain = new Plain(patterns, match, course);
        automaton = new Automaton(patterns, match, course);
        Known known = new Known(kinds, patterns, lenses, match);
        firstTree = new Tree(known, course, false);
        mostTree = new Tree(known, course, true);
    }

    // ---- types and values

    public int constructor(int type, int fields, int first, int second, int third)
            throws IndexOutOfBoundsException, IllegalArgumentException, IllegalStateException {
        demandIndex(Kinds.isType(type));
        demandArgument(isIn(fields, 0, PARTS));
        for (int i = 0; i < PARTS; i++) {
            int kind = pick(i, first, second, third);
            demandArgument(i < fields ? Kinds.isKind(kind) : kind == 0);
        }
        demandState(kinds.countOf(type) < CONSTRUCTORS);
        forgetEngines();
        return kinds.extend(type, fields, first, second, third);
    }

    public int num(int number) throws IllegalArgumentException, IllegalStateException {
        demandArgument(isDigit(number));
        demandState(values.hasRoom());
        return values.keep(NUMBER, number, NONE, NONE, NONE);
    }

    public int seq(int length, int first, int second, int third)
            throws IllegalArgumentException, IllegalStateException {
        demandArgument(isIn(length, 0, LONGEST));
        for (int i = 0; i < PARTS; i++) {
            int number = pick(i, first, second, third);
            demandArgument(i < length ? isDigit(number) : number == 0);
        }
        demandState(values.hasRoom());
        return values.keep(SEQUENCE, length, Values.digit(length > 0, first),
                Values.digit(length > 1, second), Values.digit(length > 2, third));
    }

    public int data(int type, int constructor, int first, int second, int third)
            throws IndexOutOfBoundsException, IllegalArgumentException, IllegalStateException {
        demandIndex(kinds.has(type, constructor));
        int fields = kinds.fieldsOf(type, constructor);
        demandValues(fields, first, second, third);
        for (int i = 0; i < PARTS; i++) {
            int value = pick(i, first, second, third);
            int kind = kinds.fieldKind(type, constructor, i);
            demandArgument(i < fields ? values.kindOf(value) == kind : value == NONE);
        }
        demandState(values.hasRoom());
        return values.keep(type, constructor, first, second, third);
    }

    // ---- patterns

    public int any() throws IllegalStateException {
        return keepPattern(Patterns.ANY, NONE, 0, 0, NONE, NONE, NONE);
    }

    public int name(int name, int pattern)
            throws IndexOutOfBoundsException, IllegalArgumentException, IllegalStateException {
        demandIndex(isName(name) && patterns.isThere(pattern));
        demandArgument(!patterns.binds(pattern, name));
        demandArgument(patterns.isSmall(pattern, NONE, NONE));
        return keepPattern(Patterns.NAMED, patterns.kindOf(pattern), name, name, pattern, NONE, NONE);
    }

    public int range(int from, int to) throws IllegalArgumentException, IllegalStateException {
        demandArgument(isDigit(from) && isIn(to, from, DIGITS - 1));
        return keepPattern(Patterns.RANGE, NUMBER, from, to, NONE, NONE, NONE);
    }

    public int make(int type, int constructor, int first, int second, int third)
            throws IndexOutOfBoundsException, IllegalArgumentException, IllegalStateException {
        demandIndex(kinds.has(type, constructor));
        int fields = kinds.fieldsOf(type, constructor);
        demandPatterns(fields, first, second, third);
        for (int i = 0; i < PARTS; i++) {
            int pattern = pick(i, first, second, third);
            int kind = kinds.fieldKind(type, constructor, i);
            demandArgument(i < fields ? patterns.fits(pattern, kind) : pattern == NONE);
        }
        demandArgument(patterns.canBeParts(first, second, third));
        return keepPattern(Patterns.MAKE, type, constructor, constructor, first, second, third);
    }

    public int either(int first, int second)
            throws IndexOutOfBoundsException, IllegalArgumentException, IllegalStateException {
        demandPatterns(2, first, second, NONE);
        demandArgument(patterns.canAlternate(first, second));
        return keepPattern(Patterns.EITHER, patterns.kindOfBoth(first, second), 0, 0, first, second, NONE);
    }

    public int view(int view, int pattern)
            throws IndexOutOfBoundsException, IllegalArgumentException, IllegalStateException {
        demandIndex(isView(view) && patterns.isThere(pattern));
        demandArgument(patterns.isBare(pattern) && patterns.isSmall(pattern, NONE, NONE));
        return keepPattern(Patterns.VIEW, NONE, view, view, pattern, NONE, NONE);
    }

    public int list(int many, int first, int second, int rest)
            throws IndexOutOfBoundsException, IllegalArgumentException, IllegalStateException {
        boolean isMany = isIn(many, 0, LISTED);
        demandPatterns(isMany ? many : 0, first, second, NONE);
        demandIndex(isIn(rest, NO_REST, AT_BEGIN));
        demandArgument(isMany);
        for (int i = 0; i < LISTED; i++) {
            int pattern = pick(i, first, second, NONE);
            demandArgument(i < many ? patterns.fits(pattern, NUMBER) : pattern == NONE);
        }
        demandArgument(patterns.canBeParts(first, second, NONE));
        int sort = rest == AT_BEGIN ? Patterns.LAST_ONES : Patterns.FIRST_ONES;
        int longest = rest == NO_REST ? many : LONGEST;
        return keepPattern(sort, SEQUENCE, many, longest, first, second, NONE);
    }

    public int setView(int view, int a, int b, int c, int m)
            throws IndexOutOfBoundsException, IllegalArgumentException {
        demandIndex(isView(view));
        demandArgument(isIn(a, -FACTOR, FACTOR) && isIn(b, -FACTOR, FACTOR) && isIn(c, -FACTOR, FACTOR));
        demandArgument(isIn(m, 1, DIGITS));
        forgetEngines();
        return lenses.change(view, a, b, c, m);
    }

    // ---- the match

    public int begin(int columns, int first, int second, int third) throws IllegalArgumentException {
        demandArgument(isIn(columns, 1, COLUMNS));
        for (int i = 0; i < COLUMNS; i++) {
            int kind = pick(i, first, second, third);
            demandArgument(i < columns ? Kinds.isKind(kind) : kind == 0);
        }
        forgetEngines();
        course.clear();
        return match.start(columns, first, second, third);
    }

    public int add(int first, int second, int third, int result)
            throws IndexOutOfBoundsException, IllegalArgumentException, IllegalStateException {
        int columns = match.columns();
        demandPatterns(columns, first, second, third);
        for (int i = 0; i < COLUMNS; i++) {
            int pattern = pick(i, first, second, third);
            demandArgument(i < columns ? patterns.fits(pattern, match.kindOf(i)) : pattern == NONE);
        }
        demandArgument(patterns.bindApart(first, second, third));
        demandArgument(isIn(result, 0, RESULTS - 1));
        demandState(match.isThere() && match.count() < CASES);
        forgetEngines();
        return match.append(first, second, third, result);
    }

    public int guard(int number, int guard, int name, int than)
            throws IndexOutOfBoundsException, IllegalArgumentException {
        demandIndex(match.has(number));
        demandIndex(guard == NONE || isIn(guard, LESS, RAISES));
        demandIndex(isName(name));
        demandArgument(guard == NONE ? name == 0 : bindsNumber(number, name));
        demandArgument(isDigit(than));
        forgetEngines();
        int before = match.get(number, Match.GUARD);
        match.set(number, Match.GUARD, guard);
        match.set(number, Match.NAME, name);
        match.set(number, Match.THAN, than);
        return before;
    }

    public int split(int number, int column) throws IndexOutOfBoundsException, IllegalStateException {
        demandIndex(match.has(number) && match.hasColumn(column));
        int pattern = match.get(number, column);
        demandState(match.get(number, Match.GUARD) == NONE);
        demandState(patterns.sortOf(pattern) == Patterns.EITHER && !patterns.hasView(pattern));
        demandState(match.count() < CASES);
        forgetEngines();
        match.doubleCase(number);
        match.set(number, column, patterns.partOf(pattern, 0));
        match.set(number + 1, column, patterns.partOf(pattern, 1));
        return match.count();
    }

    public int merge(int number, int column) throws IndexOutOfBoundsException, IllegalStateException {
        demandIndex(match.has(number) && number < match.count() - 1 && match.hasColumn(column));
        int next = number + 1;
        int first = match.get(number, column);
        int second = match.get(next, column);
        demandState(match.areAlike(number, next, column));
        demandState(!patterns.hasView(first) && !patterns.hasView(second));
        demandState(patterns.canAlternate(first, second));
        int kind = patterns.kindOfBoth(first, second);
        int both = keepPattern(Patterns.EITHER, kind, 0, 0, first, second, NONE);
        forgetEngines();
        match.dropCase(next);
        match.set(number, column, both);
        match.set(number, Match.TAKEN, 0);
        return match.count();
    }

    // ---- runs

    public int run(int engine, int first, int second, int third)
            throws IndexOutOfBoundsException, IllegalArgumentException, IllegalStateException {
        int columns = match.columns();
        demandIndex(isIn(engine, PLAIN, MOST));
        demandValues(columns, first, second, third);
        for (int i = 0; i < COLUMNS; i++) {
            int value = pick(i, first, second, third);
            demandArgument(i < columns ? values.kindOf(value) == match.kindOf(i) : value == NONE);
        }
        demandState(match.isThere());
        demandState(engine < FIRST || treeOf(engine).grow());
        course.start(first, second, third);
        if (engine == PLAIN) {
            return plain.decide();
        }
        return engine == AUTOMATON ? automaton.decide() : treeOf(engine).decide();
    }

    public int tests() {
        return course.testCount();
    }

    public int views() {
        return course.viewCount();
    }

    public int viewAt(int index) throws IndexOutOfBoundsException {
        demandIndex(isIn(index, 0, course.viewCount() - 1));
        return course.ranAt(index);
    }

    public int bound(int name) throws IndexOutOfBoundsException {
        demandIndex(isName(name));
        return course.placeOf(name);
    }

    public int taken(int number) throws IndexOutOfBoundsException {
        demandIndex(match.has(number));
        return match.get(number, Match.TAKEN);
    }

    // ---- what trees tell

    public int size(int engine, boolean isShared) throws IndexOutOfBoundsException, IllegalStateException {
        demandIndex(isIn(engine, FIRST, MOST));
        demandState(match.isThere());
        Tree tree = treeOf(engine);
        if (!tree.grow()) {
            return TOO_LARGE;
        }
        return isShared ? tree.sharedCount() : tree.nodeCount();
    }

    public int missing() throws IllegalStateException {
        demandState(match.isThere());
        return firstTree.grow() ? firstTree.missedCount() : TOO_LARGE;
    }

    public int example(int place) throws IllegalStateException {
        demandState(match.isThere());
        demandState(firstTree.grow());
        demandState(firstTree.missedCount() > 0);
        return firstTree.exampleAt(place);
    }

    public boolean isUsed(int number) throws IndexOutOfBoundsException, IllegalStateException {
        demandIndex(match.has(number));
        demandState(firstTree.grow());
        return firstTree.hasLeafOf(number);
    }

    // ---- what the calls share

    private Tree treeOf(int engine) {
        return engine == MOST ? mostTree : firstTree;
    }

    /** Whatever an engine was made of may have changed: it is made anew when it is asked next. */
    private void forgetEngines() {
        automaton.forget();
        firstTree.forget();
        mostTree.forget();
    }

    private int keepPattern(int sort, int kind, int low, int high, int first, int second, int third) {
        demandState(patterns.hasRoom());
        return patterns.keep(sort, kind, low, high, first, second, third);
    }

    /** Whether a case binds a name, and to numbers alone, whichever way it matches. */
    private boolean bindsNumber(int number, int name) {
        boolean isBound = false;
        for (int i = 0; i < match.columns(); i++) {
            int pattern = match.get(number, i);
            isBound = isBound || patterns.binds(pattern, name);
            if (bindsOther(patterns, kinds, pattern, match.kindOf(i), name, 0)) {
                return false;
            }
        }
        return isBound;
    }

    /** Whether a pattern for values of a kind binds a name somewhere to what is no number. */
    private static boolean bindsOther(Patterns patterns, Kinds kinds, int pattern, int kind, int name, int level) {
        if (level > LARGEST || !patterns.binds(pattern, name)) {
            return false;
        }
        int sort = patterns.sortOf(pattern);
        int low = patterns.lowOf(pattern);
        if (sort == Patterns.NAMED && low == name) {
            return kind != NUMBER;
        }
        for (int i = 0; i < patterns.partCount(pattern); i++) {
            int partKind = kind;
            if (sort == Patterns.MAKE) {
                partKind = kinds.fieldKind(kind, low, i);
            } else if (patterns.isList(pattern)) {
                partKind = NUMBER;
            }
            if (bindsOther(patterns, kinds, patterns.partOf(pattern, i), partKind, name, level + 1)) {
                return true;
            }
        }
        return false;
    }

    private void demandValues(int many, int first, int second, int third) {
        for (int i = 0; i < many; i++) {
            demandIndex(values.isThere(pick(i, first, second, third)));
        }
    }

    private void demandPatterns(int many, int first, int second, int third) {
        for (int i = 0; i < many; i++) {
            demandIndex(patterns.isThere(pick(i, first, second, third)));
        }
    }

    private static void demandIndex(boolean holds) {
        if (!holds) {
            throw new IndexOutOfBoundsException("there is no such one");
        }
    }

    private static void demandArgument(boolean holds) {
        if (!holds) {
            throw new IllegalArgumentException("this can not be told");
        }
    }

    private static void demandState(boolean holds) {
        if (!holds) {
            throw new IllegalStateException("this can not be done now");
        }
    }

    private static boolean isIn(int number, int from, int to) {
        return from <= number && number <= to;
    }

    private static boolean isDigit(int number) {
        return isIn(number, 0, DIGITS - 1);
    }

    private static boolean isName(int name) {
        return isIn(name, 0, NAMES - 1);
    }

    private static boolean isView(int view) {
        return isIn(view, 0, VIEWS - 1);
    }

    private static int pick(int index, int first, int second, int third) {
        if (index == 0) {
            return first;
        }
        return index == 1 ? second : third;
    }

    /** The place of a field, or of a number of a sequence. */
    private static int inner(int place, int index) {
        return 5 * place + index + 1;
    }

    /** What stands in a row; NONE beside it. */
    private static int at(int[] row, int index) {
        return index >= 0 && index < row.length ? row[index] : NONE;
    }

    /** Likewise, but 0 beside a row: of a pattern that is not there there are no names and no size. */
    private static int atOrZero(int[] row, int index) {
        return index >= 0 && index < row.length ? row[index] : 0;
    }

    private static void put(int[] row, int index, int what) {
        if (index >= 0 && index < row.length) {
            row[index] = what;
        }
    }

    /** What a view gave at a place; NONE if it was not run there. A place has four bits for a view. */
    private static int givenAt(int[] row, int view, int place) {
        return (atOrZero(row, place) >> 4 * view & 15) - 1;
    }

    private static void putGiven(int[] row, int view, int place, int number) {
        int others = atOrZero(row, place) & ~(15 << 4 * view);
        put(row, place, others | number + 1 << 4 * view);
    }

    /** The types: their constructors, and the kinds of the fields of these. */
    private static final class Kinds {
        private final int[] counts = new int[TYPES];
        private final int[] fields = new int[TYPES * CONSTRUCTORS];
        private final int[] fieldKinds = new int[TYPES * CONSTRUCTORS * PARTS];

        static boolean isType(int kind) {
            return isIn(kind, 0, TYPES - 1);
        }

        static boolean isKind(int kind) {
            return isType(kind) || kind == NUMBER || kind == SEQUENCE;
        }

        int countOf(int type) {
            return atOrZero(counts, type);
        }

        boolean has(int type, int constructor) {
            return isIn(constructor, 0, countOf(type) - 1);
        }

        int fieldsOf(int type, int constructor) {
            return has(type, constructor) ? at(fields, type * CONSTRUCTORS + constructor) : 0;
        }

        int fieldKind(int type, int constructor, int index) {
            boolean isThere = has(type, constructor) && isIn(index, 0, PARTS - 1);
            return isThere ? at(fieldKinds, (type * CONSTRUCTORS + constructor) * PARTS + index) : NONE;
        }

        int extend(int type, int many, int first, int second, int third) {
            int number = countOf(type);
            int row = type * CONSTRUCTORS + number;
            put(counts, type, number + 1);
            put(fields, row, many);
            for (int i = 0; i < PARTS; i++) {
                put(fieldKinds, row * PARTS + i, pick(i, first, second, third));
            }
            return number;
        }

        /** How many constructors, numbers or lengths the values of a kind may have. */
        int headsOf(int kind) {
            if (kind == NUMBER) {
                return DIGITS;
            }
            return kind == SEQUENCE ? LONGEST + 1 : atOrZero(counts, kind);
        }
    }

    /**
     * The values. The head of a value is its number, its constructor or its length. Behind the room
     * for the values that are told stand the ten numbers, for the sequences to be made of.
     */
    private static final class Values {
        private int count = 0;
        private final int[] kindRow = new int[VALUES + DIGITS];
        private final int[] heads = new int[VALUES + DIGITS];
        private final int[] measures = new int[VALUES + DIGITS];
        private final int[] parts = new int[(VALUES + DIGITS) * PARTS];

        Values() {
            Arrays.fill(parts, NONE);
            for (int i = 0; i < DIGITS; i++) {
                put(kindRow, VALUES + i, NUMBER);
                put(heads, VALUES + i, i);
                put(measures, VALUES + i, i);
            }
        }

        static int digit(boolean isThere, int number) {
            return isThere ? VALUES + number : NONE;
        }

        boolean hasRoom() {
            return count < VALUES;
        }

        boolean isThere(int value) {
            return isIn(value, 0, count - 1);
        }

        int kindOf(int value) {
            return at(kindRow, value);
        }

        int headOf(int value) {
            return at(heads, value);
        }

        int measureOf(int value) {
            return at(measures, value);
        }

        int partOf(int value, int index) {
            return value >= 0 && isIn(index, 0, PARTS - 1) ? at(parts, value * PARTS + index) : NONE;
        }

        int keep(int kind, int head, int first, int second, int third) {
            int value = count++;
            put(kindRow, value, kind);
            put(heads, value, head);
            for (int i = 0; i < PARTS; i++) {
                put(parts, value * PARTS + i, pick(i, first, second, third));
            }
            put(measures, value, measureNow(value));
            return value;
        }

        private int measureNow(int value) {
            int kind = kindOf(value);
            if (kind == NUMBER) {
                return headOf(value);
            }
            int sum = headOf(value) * (kind == SEQUENCE ? 3 : 5);
            for (int i = 0; i < PARTS; i++) {
                int part = partOf(value, i);
                if (part != NONE) {
                    sum += measureOf(part) * (kind == SEQUENCE ? 1 : i + 1);
                }
            }
            return sum % 97;
        }
    }

    /**
     * The patterns. A range, a constructor and a list hold the head of a value, which has to be from
     * low to high; in a name and a view low is that name and view.
     */
    private static final class Patterns {
        static final int ANY = 0, NAMED = 1, RANGE = 2, MAKE = 3, EITHER = 4, VIEW = 5;
        static final int FIRST_ONES = 6, LAST_ONES = 7;

        private static final int ALL_DIGITS = (1 << DIGITS) - 1;

        private int count = 0;
        private final int[] sorts = new int[PATTERNS];
        private final int[] kindRow = new int[PATTERNS];
        private final int[] lows = new int[PATTERNS];
        private final int[] highs = new int[PATTERNS];
        private final int[] parts = new int[PATTERNS * PARTS];
        private final int[] partCounts = new int[PATTERNS];
        private final int[] depths = new int[PATTERNS];
        private final int[] sizes = new int[PATTERNS];
        private final int[] nameSets = new int[PATTERNS];
        private final int[] viewFlags = new int[PATTERNS];
        // The numbers that a pattern matches, as bits; 0 if it may not be that of a view.
        private final int[] digitSets = new int[PATTERNS];

        boolean hasRoom() {
            return count < PATTERNS;
        }

        boolean isThere(int pattern) {
            return isIn(pattern, 0, count - 1);
        }

        int sortOf(int pattern) {
            return at(sorts, pattern);
        }

        int kindOf(int pattern) {
            return at(kindRow, pattern);
        }

        int lowOf(int pattern) {
            return at(lows, pattern);
        }

        int highOf(int pattern) {
            return at(highs, pattern);
        }

        int partOf(int pattern, int index) {
            return pattern >= 0 && isIn(index, 0, PARTS - 1) ? at(parts, pattern * PARTS + index) : NONE;
        }

        /** How many patterns a pattern is made of directly. */
        int partCount(int pattern) {
            return atOrZero(partCounts, pattern);
        }

        boolean isList(int pattern) {
            return sortOf(pattern) == FIRST_ONES || sortOf(pattern) == LAST_ONES;
        }

        /** Whether a pattern that holds the head of a value is content with that. */
        boolean accepts(int pattern, int head) {
            return at(lows, pattern) <= head && head <= at(highs, pattern);
        }

        /** The index at a value of what the first part of a pattern is for. */
        int offset(int pattern, int head) {
            return at(sorts, pattern) == LAST_ONES ? head - at(lows, pattern) : 0;
        }

        boolean fits(int pattern, int kind) {
            return kindOf(pattern) == NONE || kindOf(pattern) == kind;
        }

        boolean hasView(int pattern) {
            return atOrZero(viewFlags, pattern) == 1;
        }

        boolean isBare(int pattern) {
            return digitsOf(pattern) != 0;
        }

        /** Whether the pattern of a view matches a number that it gave. */
        boolean admits(int pattern, int number) {
            return number >= 0 && number < DIGITS && (atOrZero(digitSets, pattern) >> number & 1) == 1;
        }

        boolean binds(int pattern, int name) {
            return isName(name) && (namesOf(pattern) >> name & 1) == 1;
        }

        boolean bindApart(int first, int second, int third) {
            int one = namesOf(first);
            int two = namesOf(second);
            int three = namesOf(third);
            return (one & two) == 0 && (one & three) == 0 && (two & three) == 0;
        }

        boolean isSmall(int first, int second, int third) {
            return 1 + sizeOf(first) + sizeOf(second) + sizeOf(third) <= LARGEST;
        }

        boolean canBeParts(int first, int second, int third) {
            return bindApart(first, second, third) && isSmall(first, second, third)
                    && deepest(first, second, third) < DEEPEST;
        }

        boolean canAlternate(int first, int second) {
            boolean areAlike = kindOf(first) == NONE || fits(second, kindOf(first));
            return areAlike && namesOf(first) == namesOf(second) && isSmall(first, second, NONE);
        }

        int kindOfBoth(int first, int second) {
            return kindOf(first) == NONE ? kindOf(second) : kindOf(first);
        }

        int keep(int sort, int kind, int low, int high, int first, int second, int third) {
            int pattern = count++;
            put(sorts, pattern, sort);
            put(kindRow, pattern, kind);
            put(lows, pattern, low);
            put(highs, pattern, high);
            for (int i = 0; i < PARTS; i++) {
                int part = pick(i, first, second, third);
                put(parts, pattern * PARTS + i, part);
                put(partCounts, pattern, partCount(pattern) + (part == NONE ? 0 : 1));
            }
            boolean isHolding = sort != NAMED && sort != EITHER && sort != VIEW;
            put(depths, pattern, deepest(first, second, third) + (isHolding ? 1 : 0));
            put(sizes, pattern, 1 + sizeOf(first) + sizeOf(second) + sizeOf(third));
            int names = namesOf(first) | namesOf(second) | namesOf(third);
            put(nameSets, pattern, sort == NAMED ? names | 1 << low : names);
            boolean isViewing = sort == VIEW || hasView(first) || hasView(second) || hasView(third);
            put(viewFlags, pattern, isViewing ? 1 : 0);
            put(digitSets, pattern, digitsNow(pattern));
            return pattern;
        }

        private int digitsNow(int pattern) {
            switch (sortOf(pattern)) {
                case ANY:
                    return ALL_DIGITS;
                case RANGE:
                    return ALL_DIGITS >> DIGITS - 1 - highOf(pattern) & ALL_DIGITS << lowOf(pattern);
                case EITHER:
                    int first = digitsOf(partOf(pattern, 0));
                    int second = digitsOf(partOf(pattern, 1));
                    return first == 0 || second == 0 ? 0 : first | second;
                default:
                    return 0;
            }
        }

        private int digitsOf(int pattern) {
            return atOrZero(digitSets, pattern);
        }

        private int namesOf(int pattern) {
            return atOrZero(nameSets, pattern);
        }

        private int sizeOf(int pattern) {
            return atOrZero(sizes, pattern);
        }

        private int depthOf(int pattern) {
            return atOrZero(depths, pattern);
        }

        private int deepest(int first, int second, int third) {
            return Math.max(depthOf(first), Math.max(depthOf(second), depthOf(third)));
        }
    }

    /** The views: the numbers a, b, c and m of each. */
    private static final class Views {
        private static final int CELLS = 4;
        private static final int A = 0, B = 1, C = 2, M = 3;

        private final int[] cells = new int[VIEWS * CELLS];

        Views() {
            for (int i = 0; i < VIEWS; i++) {
                put(cells, i * CELLS + A, 1);
                put(cells, i * CELLS + M, DIGITS);
            }
        }

        private int get(int view, int cell) {
            return at(cells, view * CELLS + cell);
        }

        /** How many numbers a view may give. */
        int manyOf(int view) {
            return at(cells, view * CELLS + M);
        }

        int change(int view, int a, int b, int c, int m) {
            int before = manyOf(view);
            put(cells, view * CELLS + A, a);
            put(cells, view * CELLS + B, b);
            put(cells, view * CELLS + C, c);
            put(cells, view * CELLS + M, m);
            return before;
        }

        int give(int view, int measure, int ahead) {
            int many = get(view, M);
            int sum = get(view, A) * measure + get(view, B) * ahead + get(view, C);
            return many > 0 ? Math.floorMod(sum, many) : 0;
        }
    }

    /** The match: the kinds of its columns, and its cases, a row of cells each. */
    private static final class Match {
        // The patterns stand in the cells of their columns, 0 to 2.
        static final int RESULT = 3, GUARD = 4, NAME = 5, THAN = 6, TAKEN = 7;

        private static final int CELLS = 8;

        private int columnCount = 0;
        private int caseCount = 0;
        private final int[] kindRow = new int[COLUMNS];
        private final int[] cells = new int[CASES * CELLS];

        boolean isThere() {
            return columnCount > 0;
        }

        int columns() {
            return columnCount;
        }

        boolean hasColumn(int column) {
            return isIn(column, 0, columnCount - 1);
        }

        int kindOf(int column) {
            return at(kindRow, column);
        }

        int count() {
            return caseCount;
        }

        boolean has(int number) {
            return 0 <= number && number < caseCount;
        }

        int get(int number, int cell) {
            return has(number) && isIn(cell, 0, CELLS - 1) ? at(cells, number * CELLS + cell) : NONE;
        }

        void set(int number, int cell, int what) {
            if (has(number) && isIn(cell, 0, CELLS - 1)) {
                put(cells, number * CELLS + cell, what);
            }
        }

        int start(int columns, int first, int second, int third) {
            int before = caseCount;
            columnCount = columns;
            caseCount = 0;
            for (int i = 0; i < COLUMNS; i++) {
                put(kindRow, i, pick(i, first, second, third));
            }
            return before;
        }

        int append(int first, int second, int third, int result) {
            int number = caseCount++;
            for (int i = 0; i < COLUMNS; i++) {
                set(number, i, pick(i, first, second, third));
            }
            set(number, RESULT, result);
            set(number, GUARD, NONE);
            set(number, NAME, 0);
            set(number, THAN, 0);
            set(number, TAKEN, 0);
            return number;
        }

        /** Whether two cases differ in one column at most, and nothing keeps them from being one. */
        boolean areAlike(int number, int other, int column) {
            for (int i = 0; i < COLUMNS; i++) {
                if (i != column && get(number, i) != get(other, i)) {
                    return false;
                }
            }
            return get(number, GUARD) == NONE && get(other, GUARD) == NONE
                    && get(number, RESULT) == get(other, RESULT);
        }

        /** Puts a case behind a case, like it; neither was taken yet. */
        void doubleCase(int number) {
            caseCount++;
            for (int i = caseCount - 1; i > number; i--) {
                copyCase(i - 1, i);
            }
            set(number, TAKEN, 0);
            set(number + 1, TAKEN, 0);
        }

        void dropCase(int number) {
            for (int i = number; i < caseCount - 1; i++) {
                copyCase(i + 1, i);
            }
            caseCount--;
        }

        private void copyCase(int from, int to) {
            for (int i = 0; i < CELLS; i++) {
                set(to, i, get(from, i));
            }
        }
    }

    /**
     * The course of a run, and what is told of the latest one: the values at the places that it came
     * to, the views that it ran, the names that it bound.
     */
    private static final class Course {
        private final Values values;
        private final Views lenses;
        private final Match match;
        private int tests = 0;
        private int ranCount = 0;
        private final int[] found = new int[PLACES];
        private final int[] given = new int[PLACES];
        private final int[] ran = new int[REAL_PLACES * VIEWS];
        private final int[] bound = new int[NAMES];

        Course(Values values, Views lenses, Match match) {
            this.values = values;
            this.lenses = lenses;
            this.match = match;
            Arrays.fill(bound, NONE);
        }

        void clear() {
            tests = 0;
            ranCount = 0;
            unbind();
        }

        void start(int first, int second, int third) {
            clear();
            Arrays.fill(given, 0);
            put(found, 1, first);
            put(found, 2, second);
            put(found, 3, third);
        }

        int testCount() {
            return tests;
        }

        int viewCount() {
            return ranCount;
        }

        int ranAt(int index) {
            return at(ran, index);
        }

        int placeOf(int name) {
            return at(bound, name);
        }

        void unbind() {
            Arrays.fill(bound, NONE);
        }

        void bind(int name, int place) {
            put(bound, name, place);
        }

        void countTest() {
            tests++;
        }

        /** The number, the constructor or the length at a place. */
        int headAt(int place) {
            return values.headOf(at(found, place));
        }

        /** Comes to what is in the value at a place. */
        void open(int place) {
            int value = at(found, place);
            for (int i = 0; i < PARTS; i++) {
                put(found, inner(place, i), values.partOf(value, i));
            }
        }

        /** What a view gives at a place; it is run there once only. */
        int look(int view, int place) {
            int known = givenAt(given, view, place);
            if (known != NONE) {
                return known;
            }
            int number = lenses.give(view, values.measureOf(at(found, place)), ranCount);
            putGiven(given, view, place, number);
            put(ran, ranCount, 100000 * view + 10 * place + number);
            ranCount++;
            return number;
        }

        /** How the guard of a case, whose names are bound, comes out. */
        int guardOf(int number) {
            int head = headAt(placeOf(match.get(number, Match.NAME)));
            int than = match.get(number, Match.THAN);
            switch (match.get(number, Match.GUARD)) {
                case LESS:
                    return head < than ? HELD : FAILED;
                case SAME:
                    return head == than ? HELD : FAILED;
                case MORE:
                    return head > than ? HELD : FAILED;
                case RAISES:
                    return head == than ? ROSE : HELD;
                default:
                    return HELD;
            }
        }

        int take(int number) {
            match.set(number, Match.TAKEN, match.get(number, Match.TAKEN) + 1);
            return match.get(number, Match.RESULT);
        }

        int miss() {
            unbind();
            return MISSED;
        }
    }

    /** The engine that tries case by case. */
    private static final class Plain {
        private final Patterns patterns;
        private final Match match;
        private final Course course;

        Plain(Patterns patterns, Match match, Course course) {
            this.patterns = patterns;
            this.match = match;
            this.course = course;
        }

        int decide() {
            for (int i = 0; i < match.count(); i++) {
                if (fitsCase(i)) {
                    int outcome = course.guardOf(i);
                    if (outcome != FAILED) {
                        return outcome == HELD ? course.take(i) : RAISED;
                    }
                }
            }
            return course.miss();
        }

        private boolean fitsCase(int number) {
            course.unbind();
            for (int i = 0; i < match.columns(); i++) {
                if (!fitsAt(match.get(number, i), i + 1, 0)) {
                    return false;
                }
            }
            return true;
        }

        private boolean fitsAt(int pattern, int place, int level) {
            if (level > LARGEST) {
                return false;
            }
            switch (patterns.sortOf(pattern)) {
                case Patterns.ANY:
                    return true;
                case Patterns.NAMED:
                    course.bind(patterns.lowOf(pattern), place);
                    return fitsAt(patterns.partOf(pattern, 0), place, level + 1);
                case Patterns.EITHER:
                    return fitsAt(patterns.partOf(pattern, 0), place, level + 1)
                            || fitsAt(patterns.partOf(pattern, 1), place, level + 1);
                case Patterns.VIEW:
                    int number = course.look(patterns.lowOf(pattern), place);
                    return fitsNumber(patterns, course, patterns.partOf(pattern, 0), number, level + 1);
                default:
                    return fitsHead(pattern, place, level);
            }
        }

        private boolean fitsHead(int pattern, int place, int level) {
            int head = course.headAt(place);
            course.countTest();
            if (!patterns.accepts(pattern, head)) {
                return false;
            }
            course.open(place);
            int offset = patterns.offset(pattern, head);
            for (int i = 0; i < patterns.partCount(pattern); i++) {
                if (!fitsAt(patterns.partOf(pattern, i), inner(place, offset + i), level + 1)) {
                    return false;
                }
            }
            return true;
        }

        private static boolean fitsNumber(Patterns patterns, Course course, int pattern, int number, int level) {
            if (level > LARGEST) {
                return false;
            }
            switch (patterns.sortOf(pattern)) {
                case Patterns.ANY:
                    return true;
                case Patterns.EITHER:
                    return fitsNumber(patterns, course, patterns.partOf(pattern, 0), number, level + 1)
                            || fitsNumber(patterns, course, patterns.partOf(pattern, 1), number, level + 1);
                default:
                    course.countTest();
                    return patterns.accepts(pattern, number);
            }
        }
    }

    /**
     * The engine that does what the plain one does by a row of codes. A code leads to the next one,
     * or to another one; it speaks of a place by how deep that is, since the place of
     * the last number of a sequence is known in a run only. All codes lead forwards.
     */
    private static final class Automaton {
        private static final int CASE = 0, COLUMN = 1, PART = 2, FROM_END = 3, BIND = 4, HOLD = 5;
        private static final int LOOK = 6, HOLD_GIVEN = 7, GO = 8, ASK = 9, TAKE = 10, MISS = 11;

        // Where what a code holds stands in its bits: its operation, a depth, and two numbers.
        private static final int DEPTH = 4, ONE = 8, OTHER = 16;

        // At most two codes for a pattern (itself and the way to it, or itself and the way around the
        // second alternative), and six more for a case.
        private static final int CODES = CASES * (COLUMNS * LARGEST * 2 + 6) + 1;

        private final Patterns patterns;
        private final Match match;
        private final Course course;
        private boolean isMade = false;
        private int count = 0;
        private int given = 0;
        private final int[] codes = new int[CODES];
        private final int[] elses = new int[CODES];
        private final int[] way = new int[DEEPEST + 1];

        Automaton(Patterns patterns, Match match, Course course) {
            this.patterns = patterns;
            this.match = match;
            this.course = course;
        }

        void forget() {
            isMade = false;
        }

        int decide() {
            if (!isMade) {
                compile();
                isMade = true;
            }
            int code = 0;
            for (int step = 0; step < count; step++) {
                int number = numberIn(code, ONE);
                switch (operationIn(code)) {
                    case TAKE:
                        return course.take(number);
                    case MISS:
                        return course.miss();
                    case ASK:
                        int outcome = course.guardOf(number);
                        if (outcome == ROSE) {
                            return RAISED;
                        }
                        code = outcome == HELD ? code + 1 : at(elses, code);
                        break;
                    default:
                        code = follow(code) ? code + 1 : at(elses, code);
                        break;
                }
            }
            return course.miss();
        }

        /** Does a code that ends no run; whether the next one is to follow. */
        private boolean follow(int code) {
            int depth = at(codes, code) >> DEPTH & 15;
            int place = at(way, depth);
            int one = numberIn(code, ONE);
            switch (operationIn(code)) {
                case CASE:
                    course.unbind();
                    return true;
                case COLUMN:
                    put(way, 0, one);
                    return true;
                case PART:
                    put(way, depth + 1, inner(place, one));
                    return true;
                case FROM_END:
                    put(way, depth + 1, inner(place, course.headAt(place) - one));
                    return true;
                case BIND:
                    course.bind(one, place);
                    return true;
                case HOLD:
                    course.countTest();
                    course.open(place);
                    return isIn(course.headAt(place), one, numberIn(code, OTHER));
                case LOOK:
                    given = course.look(one, place);
                    return true;
                case HOLD_GIVEN:
                    course.countTest();
                    return isIn(given, one, numberIn(code, OTHER));
                default:
                    return false;
            }
        }

        private int operationIn(int code) {
            return at(codes, code) & 15;
        }

        private int numberIn(int code, int shift) {
            return at(codes, code) >> shift & 255;
        }

        private void compile() {
            count = 0;
            for (int i = 0; i < match.count(); i++) {
                write(CASE, 0, i, 0, NONE);
                int chain = NONE;
                for (int j = 0; j < match.columns(); j++) {
                    write(COLUMN, 0, j + 1, 0, NONE);
                    chain = writePattern(match.get(i, j), 0, chain, 0);
                }
                if (match.get(i, Match.GUARD) != NONE) {
                    chain = write(ASK, 0, i, 0, chain);
                }
                write(TAKE, 0, i, 0, NONE);
                land(chain);
            }
            write(MISS, 0, 0, 0, NONE);
        }

        /** Writes a code, and tells where; what it may lead to is, at first, one ahead in a chain. */
        private int write(int operation, int depth, int one, int other, int orElse) {
            int code = count++;
            put(codes, code, operation | depth << DEPTH | one << ONE | other << OTHER);
            put(elses, code, orElse);
            return code;
        }

        /** Leads a chain of codes, whose targets were not known yet, to the code that comes next. */
        private void land(int chain) {
            int code = chain;
            for (int i = 0; i < CODES && code != NONE; i++) {
                int ahead = at(elses, code);
                put(elses, code, count);
                code = ahead;
            }
        }

        /** Writes the codes of a pattern; tells the chain, with those in it that lead to a failure. */
        private int writePattern(int pattern, int depth, int chain, int level) {
            if (level > LARGEST) {
                return chain;
            }
            int low = patterns.lowOf(pattern);
            switch (patterns.sortOf(pattern)) {
                case Patterns.ANY:
                    return chain;
                case Patterns.NAMED:
                    write(BIND, depth, low, 0, NONE);
                    return writePattern(patterns.partOf(pattern, 0), depth, chain, level + 1);
                case Patterns.EITHER:
                    land(writePatternAndGo(pattern, depth, level));
                    int around = count - 1;
                    int failing = writePattern(patterns.partOf(pattern, 1), depth, chain, level + 1);
                    land(around);
                    return failing;
                case Patterns.VIEW:
                    write(LOOK, depth, low, 0, NONE);
                    return writeNumbers(this, patterns.partOf(pattern, 0), chain, level + 1);
                default:
                    return writeParts(pattern, depth, write(HOLD, depth, low, patterns.highOf(pattern), chain), level);
            }
        }

        /** Writes the first alternative and, as the last code, the way around the second one. */
        private int writePatternAndGo(int pattern, int depth, int level) {
            int failing = writePattern(patterns.partOf(pattern, 0), depth, NONE, level + 1);
            write(GO, 0, 0, 0, NONE);
            return failing;
        }

        private int writeParts(int pattern, int depth, int chain, int level) {
            int many = patterns.partCount(pattern);
            int failing = chain;
            for (int i = 0; i < many; i++) {
                if (patterns.sortOf(pattern) == Patterns.LAST_ONES) {
                    write(FROM_END, depth, many - i, 0, NONE);
                } else {
                    write(PART, depth, i, 0, NONE);
                }
                failing = writePattern(patterns.partOf(pattern, i), depth + 1, failing, level + 1);
            }
            return failing;
        }

        /** Likewise for the pattern of a view, which holds what that gave. */
        private static int writeNumbers(Automaton row, int pattern, int chain, int level) {
            Patterns all = row.patterns;
            if (level > LARGEST || all.sortOf(pattern) == Patterns.ANY) {
                return chain;
            }
            if (all.sortOf(pattern) != Patterns.EITHER) {
                return row.write(HOLD_GIVEN, 0, all.lowOf(pattern), all.highOf(pattern), chain);
            }
            int missed = writeNumbers(row, all.partOf(pattern, 0), NONE, level + 1);
            int around = row.write(GO, 0, 0, 0, NONE);
            row.land(missed);
            int failing = writeNumbers(row, all.partOf(pattern, 1), chain, level + 1);
            row.land(around);
            return failing;
        }
    }

    /** What is known at a node of a tree, and what is asked next by that. */
    private static final class Known {
        static final int LEAF = 0, RAISED_LEAF = 1, MISSED_LEAF = 2, HEAD = 3, GIVEN = 4, GUARD = 5;

        private static final int NO = 0, YES = 1, ASKS = 2;
        private static final int ALL_CASES = (1 << CASES) - 1;

        private final Kinds kinds;
        private final Patterns patterns;
        private final Views lenses;
        private final Match match;
        private int failed = 0;
        private int sort = MISSED_LEAF;
        private int what = 0;
        private int which = 0;
        private int neededCount = 0;
        private final int[] heads = new int[PLACES];
        private final int[] given = new int[PLACES];
        private final int[] bound = new int[NAMES];
        private final int[] needed = new int[REAL_PLACES];
        // A bit for each case that needs a place, and behind them its kind.
        private final int[] needs = new int[PLACES];

        Known(Kinds kinds, Patterns patterns, Views lenses, Match match) {
            this.kinds = kinds;
            this.patterns = patterns;
            this.lenses = lenses;
            this.match = match;
        }

        void clear() {
            failed = 0;
            Arrays.fill(heads, NONE);
            Arrays.fill(given, 0);
        }

        void learnHead(int place, int head) {
            put(heads, place, head);
        }

        void learnGiven(int view, int place, int number) {
            putGiven(given, view, place, number);
        }

        void learnFailed(int number, boolean hasFailed) {
            failed = hasFailed ? failed | 1 << number : failed & ~(1 << number);
        }

        /** A leaf or GUARD, of the case what(); MISSED_LEAF; HEAD or GIVEN, at the place what(). */
        int sort() {
            return sort;
        }

        int what() {
            return what;
        }

        /** The kind of a HEAD, the view of a GIVEN. */
        int which() {
            return which;
        }

        int placeOf(int name) {
            return at(bound, name);
        }

        /** How many branches what is asked next has. */
        int width() {
            switch (sort) {
                case HEAD:
                    return kinds.headsOf(which);
                case GIVEN:
                    return lenses.manyOf(which);
                case GUARD:
                    return 2;
                default:
                    return 0;
            }
        }

        /** Takes that the guard of a case, asked behind a branch, held or raised as what comes next. */
        boolean seekGuard(int number, int branch) {
            boolean isLeaf = branch == 0 || match.get(number, Match.GUARD) == RAISES;
            if (isLeaf) {
                setNext(branch == 0 ? LEAF : RAISED_LEAF, number, 0);
            }
            return isLeaf;
        }

        /** Follows the plain order up to its end or to what it asks first. */
        void seek() {
            for (int i = 0; i < match.count(); i++) {
                int answer = hasFailed(i) ? NO : tryCase(i);
                if (answer == YES) {
                    setNext(match.get(i, Match.GUARD) == NONE ? LEAF : GUARD, i, 0);
                    return;
                }
                if (answer == ASKS) {
                    return;
                }
            }
            setNext(MISSED_LEAF, 0, 0);
        }

        /** Whether a case matches by what is known; binds its names, if so. */
        int tryCase(int number) {
            Arrays.fill(bound, NONE);
            for (int i = 0; i < match.columns(); i++) {
                int answer = tryAt(match.get(number, i), i + 1, 0);
                if (answer != YES) {
                    return answer;
                }
            }
            return YES;
        }

        private boolean hasFailed(int number) {
            return (failed >> number & 1) == 1;
        }

        private void setNext(int newSort, int newWhat, int newWhich) {
            sort = newSort;
            what = newWhat;
            which = newWhich;
        }

        private int ask(int newSort, int place, int newWhich) {
            setNext(newSort, place, newWhich);
            return ASKS;
        }

        private int tryAt(int pattern, int place, int level) {
            if (level > LARGEST) {
                return NO;
            }
            switch (patterns.sortOf(pattern)) {
                case Patterns.ANY:
                    return YES;
                case Patterns.NAMED:
                    put(bound, patterns.lowOf(pattern), place);
                    return tryAt(patterns.partOf(pattern, 0), place, level + 1);
                case Patterns.EITHER:
                    int answer = tryAt(patterns.partOf(pattern, 0), place, level + 1);
                    return answer == NO ? tryAt(patterns.partOf(pattern, 1), place, level + 1) : answer;
                case Patterns.VIEW:
                    int view = patterns.lowOf(pattern);
                    int number = givenAt(given, view, place);
                    if (number == NONE) {
                        return ask(GIVEN, place, view);
                    }
                    return patterns.admits(patterns.partOf(pattern, 0), number) ? YES : NO;
                default:
                    return tryHead(pattern, place, level);
            }
        }

        private int tryHead(int pattern, int place, int level) {
            int head = at(heads, place);
            if (head == NONE) {
                return ask(HEAD, place, patterns.kindOf(pattern));
            }
            if (!patterns.accepts(pattern, head)) {
                return NO;
            }
            int offset = patterns.offset(pattern, head);
            for (int i = 0; i < patterns.partCount(pattern); i++) {
                int answer = tryAt(patterns.partOf(pattern, i), inner(place, offset + i), level + 1);
                if (answer != YES) {
                    return answer;
                }
            }
            return YES;
        }

        /** Asks the place that the most cases need, of several the lowest one. */
        void seekMost() {
            neededCount = 0;
            for (int i = 0; i < match.count(); i++) {
                if (!hasFailed(i) && tryCase(i) != NO) {
                    for (int j = 0; j < match.columns(); j++) {
                        need(match.get(i, j), j + 1, 1 << i, 0);
                    }
                }
            }
            int best = NONE;
            int most = 0;
            int kind = NONE;
            for (int i = 0; i < neededCount; i++) {
                int place = at(needed, i);
                int marks = at(needs, place);
                int many = Integer.bitCount(marks & ALL_CASES);
                if (many > most || many == most && place < best) {
                    best = place;
                    most = many;
                    kind = marks >> CASES;
                }
                put(needs, place, 0);
            }
            setNext(HEAD, best, kind);
        }

        /** Marks the places that a pattern needs with the bit of its case. */
        private void need(int pattern, int place, int bit, int level) {
            if (level > LARGEST) {
                return;
            }
            switch (patterns.sortOf(pattern)) {
                case Patterns.ANY:
                case Patterns.VIEW:
                    return;
                case Patterns.NAMED:
                case Patterns.EITHER:
                    for (int i = 0; i < patterns.partCount(pattern); i++) {
                        need(patterns.partOf(pattern, i), place, bit, level + 1);
                    }
                    return;
                default:
                    needHead(pattern, place, bit, level);
            }
        }

        private void needHead(int pattern, int place, int bit, int level) {
            int head = at(heads, place);
            if (head == NONE) {
                markNeed(place, patterns.kindOf(pattern), bit);
            } else if (patterns.accepts(pattern, head)) {
                int offset = patterns.offset(pattern, head);
                for (int i = 0; i < patterns.partCount(pattern); i++) {
                    need(patterns.partOf(pattern, i), inner(place, offset + i), bit, level + 1);
                }
            }
        }

        private void markNeed(int place, int kind, int bit) {
            int before = at(needs, place);
            if (before == 0) {
                put(needed, neededCount++, place);
            }
            put(needs, place, before | bit | kind << CASES);
        }
    }

    /**
     * The engine that asks each thing once: FIRST or MOST. Nodes are numbered by the order in which a
     * walk from the root, with what is behind a node from its first branch on, comes to them.
     */
    private static final class Tree {
        private final Known known;
        private final Course course;
        private final boolean isMost;
        private boolean isLarge = false;
        private int nodes = 0;
        private int branches = 0;
        private int shared = NONE;
        private int missed = 0;
        private int firstMissed = NONE;
        private int used = 0;
        // What a node asks, or is a leaf of; the branches of all nodes are one row, and each node
        // knows where its own start there.
        private final int[] asks = new int[NODES];
        private final int[] starts = new int[NODES];
        private final int[] behind = new int[NODES];
        private final int[] ahead = new int[NODES];
        // While the tree grows, how many branches of a node have; then the node that it is the same as.
        private final int[] marks = new int[NODES];

        Tree(Known known, Course course, boolean isMost) {
            this.known = known;
            this.course = course;
            this.isMost = isMost;
        }

        void forget() {
            nodes = 0;
        }

        int nodeCount() {
            return nodes;
        }

        int missedCount() {
            return missed;
        }

        boolean hasLeafOf(int number) {
            return (used >> number & 1) == 1;
        }

        /** What is known at a place at the first leaf MISSED. */
        int exampleAt(int place) {
            int node = firstMissed;
            for (int i = 0; i < NODES && node > 0; i++) {
                int asking = at(ahead, node);
                if (sortOf(asking) == Known.HEAD && whatOf(asking) == place) {
                    return branchTo(asking, node);
                }
                node = asking;
            }
            return HOLE;
        }

        private int branchTo(int asking, int node) {
            for (int i = 0; i < widthOf(asking); i++) {
                if (nodeBehind(asking, i) == node) {
                    return i;
                }
            }
            return HOLE;
        }

        private int nodeBehind(int node, int branch) {
            return isIn(branch, 0, widthOf(node) - 1) ? at(behind, at(starts, node) + branch) : NONE;
        }

        private int sortOf(int node) {
            return at(asks, node) & 7;
        }

        private int whichOf(int node) {
            return at(asks, node) >> 3 & 7;
        }

        private int whatOf(int node) {
            return at(asks, node) >> 6;
        }

        private int widthOf(int node) {
            int end = node + 1 < nodes ? at(starts, node + 1) : branches;
            return end - at(starts, node);
        }

        /** Makes the nodes, unless they stand; whether they are not too many. */
        boolean grow() {
            if (nodes > 0) {
                return !isLarge;
            }
            known.clear();
            branches = 0;
            shared = NONE;
            missed = 0;
            used = 0;
            isLarge = false;
            int node = plant(NONE, 0);
            // Each node is come to once from ahead and left once.
            for (int step = 0; step < 2 * NODES && node != NONE && !isLarge; step++) {
                int branch = at(marks, node);
                if (branch < widthOf(node)) {
                    put(marks, node, branch + 1);
                    learn(node, branch);
                    node = plant(node, branch);
                } else {
                    learn(node, NONE);
                    node = at(ahead, node);
                }
            }
            return !isLarge;
        }

        /** Makes the node behind a branch of another. */
        private int plant(int asking, int branch) {
            int node = nodes++;
            put(ahead, node, asking);
            put(marks, node, 0);
            if (asking != NONE) {
                put(behind, at(starts, asking) + branch, node);
            }
            if (asking == NONE || sortOf(asking) != Known.GUARD || !known.seekGuard(whatOf(asking), branch)) {
                known.seek();
                if (isMost && known.sort() == Known.HEAD) {
                    known.seekMost();
                }
            }
            keepNext(node);
            return node;
        }

        private void keepNext(int node) {
            int sort = known.sort();
            put(asks, node, sort | known.which() << 3 | known.what() << 6);
            put(starts, node, branches);
            branches += known.width();
            // All nodes but the root are behind a branch.
            isLarge = branches + 1 > NODES;
            if (sort == Known.MISSED_LEAF) {
                firstMissed = missed == 0 ? node : firstMissed;
                missed++;
            } else if (sort == Known.LEAF || sort == Known.RAISED_LEAF) {
                used |= 1 << known.what();
            }
        }

        /** Takes what a branch of a node tells as known; with NONE, as not known. */
        private void learn(int node, int branch) {
            int what = whatOf(node);
            switch (sortOf(node)) {
                case Known.HEAD:
                    known.learnHead(what, branch);
                    break;
                case Known.GIVEN:
                    known.learnGiven(whichOf(node), what, branch);
                    break;
                case Known.GUARD:
                    known.learnFailed(what, branch == 1);
                    break;
                default:
                    break;
            }
        }

        int decide() {
            known.clear();
            int node = 0;
            for (int step = 0; step < NODES && node != NONE; step++) {
                int what = whatOf(node);
                switch (sortOf(node)) {
                    case Known.LEAF:
                        bindNames(what);
                        return course.take(what);
                    case Known.RAISED_LEAF:
                        bindNames(what);
                        return RAISED;
                    case Known.MISSED_LEAF:
                        return course.miss();
                    default:
                        int branch = branchTaken(node);
                        learn(node, branch);
                        node = nodeBehind(node, branch);
                        break;
                }
            }
            return course.miss();
        }

        private int branchTaken(int node) {
            int what = whatOf(node);
            if (sortOf(node) == Known.GUARD) {
                bindNames(what);
                return course.guardOf(what) == HELD ? 0 : 1;
            }
            course.countTest();
            if (sortOf(node) == Known.GIVEN) {
                return course.look(whichOf(node), what);
            }
            course.open(what);
            return course.headAt(what);
        }

        /** Binds the names of a case that matches by what is known. */
        private void bindNames(int number) {
            known.tryCase(number);
            for (int i = 0; i < NAMES; i++) {
                course.bind(i, known.placeOf(i));
            }
        }

        /** How many nodes there are when those that are the same are one. */
        int sharedCount() {
            if (shared == NONE) {
                shared = 0;
                // What is behind a node has a higher number.
                for (int node = nodes - 1; node >= 0; node--) {
                    put(marks, node, sameAs(node));
                    shared += at(marks, node) == node ? 1 : 0;
                }
            }
            return shared;
        }

        /** The node that stands for a node: one behind it, one with a higher number, or itself. */
        private int sameAs(int node) {
            if (sortOf(node) == Known.HEAD && widthOf(node) > 0 && isIdle(node)) {
                return at(marks, nodeBehind(node, 0));
            }
            for (int other = node + 1; other < nodes; other++) {
                if (at(marks, other) == other && areSame(node, other)) {
                    return other;
                }
            }
            return node;
        }

        private boolean isIdle(int node) {
            for (int i = 1; i < widthOf(node); i++) {
                if (at(marks, nodeBehind(node, i)) != at(marks, nodeBehind(node, 0))) {
                    return false;
                }
            }
            return true;
        }

        private boolean areSame(int node, int other) {
            if (at(asks, node) != at(asks, other) || widthOf(node) != widthOf(other)) {
                return false;
            }
            for (int i = 0; i < widthOf(node); i++) {
                if (at(marks, nodeBehind(node, i)) != at(marks, nodeBehind(other, i))) {
                    return false;
                }
            }
            return true;
        }
    }
}
