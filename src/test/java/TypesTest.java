/** Promises 1 to 5: a new object, types and values. */
public final class TypesTest {
    private static final int NONE = Patternforge.NONE;
    private static final int NUMBER = Patternforge.NUMBER;
    private static final int SEQUENCE = Patternforge.SEQUENCE;
    private static final int TOP = Integer.MAX_VALUE, LOW = Integer.MIN_VALUE;

    private static final Due due = new Due("TypesTest");

    public static void main(String[] args) {
        newObject();
        constructor();
        num();
        seq();
        data();
        measures();
        due.end();
    }

    private static void newObject() {
        Patternforge x = new Patternforge();
        due.is("P1 tests()", () -> x.tests(), 0);
        due.is("P1 views()", () -> x.views(), 0);
        due.fails(Due.INDEX, "P1 viewAt(0)", () -> x.viewAt(0));
        due.is("P1 bound(0)", () -> x.bound(0), NONE);
        due.fails(Due.INDEX, "P1 taken(0)", () -> x.taken(0));
        due.fails(Due.STATE, "P1 missing()", () -> x.missing());
        due.fails(Due.STATE, "P1 example(1)", () -> x.example(1));
        due.fails(Due.STATE, "P1 size(2, true)", () -> x.size(2, true));
        due.fails(Due.INDEX, "P1 isUsed(0)", () -> x.isUsed(0));
        due.fails(Due.STATE, "P1 run without a match", () -> x.run(0, NONE, NONE, NONE));
        due.fails(Due.INDEX, "P1 name of no pattern", () -> x.name(0, 0));
        due.fails(Due.INDEX, "P1 data of a type without constructors", () -> x.data(0, 0, NONE, NONE, NONE));
        for (int i = 0; i < 3; i++) {
            int view = i;
            due.is("P1 m of a view at first", () -> x.setView(view, 1, 0, 0, 10), 10);
        }
        due.is("P1 begin after no match", () -> x.begin(1, 0, 0, 0), 0);
    }

    private static void constructor() {
        Patternforge x = new Patternforge();
        due.is("P2 constructor(3, 0, 0, 0, 0)", () -> x.constructor(3, 0, 0, 0, 0), 0);
        due.is("P2 constructor(3, 3, 5, 4, 3)", () -> x.constructor(3, 3, SEQUENCE, NUMBER, 3), 1);
        due.is("P2 of another type", () -> x.constructor(0, 1, 3, 0, 0), 0);
        for (int type : new int[] {-1, 4, TOP, LOW}) {
            due.fails(Due.INDEX, "P2 type " + type, () -> x.constructor(type, 9, 9, 9, 9));
        }
        for (int fields : new int[] {-1, 4, TOP, LOW}) {
            due.fails(Due.ARGUMENT, "P2 fields " + fields, () -> x.constructor(3, fields, 0, 0, 0));
        }
        for (int kind : new int[] {-1, 6, TOP, LOW}) {
            due.fails(Due.ARGUMENT, "P2 first kind " + kind, () -> x.constructor(3, 3, kind, 0, 0));
            due.fails(Due.ARGUMENT, "P2 second kind " + kind, () -> x.constructor(3, 3, 0, kind, 0));
            due.fails(Due.ARGUMENT, "P2 third kind " + kind, () -> x.constructor(3, 3, 0, 0, kind));
        }
        due.fails(Due.ARGUMENT, "P2 a kind of no first field", () -> x.constructor(3, 0, 1, 0, 0));
        due.fails(Due.ARGUMENT, "P2 a kind of no second field", () -> x.constructor(3, 1, 1, 1, 0));
        due.fails(Due.ARGUMENT, "P2 NONE for no third field", () -> x.constructor(3, 2, 1, 1, NONE));
        due.is("P2 the third one", () -> x.constructor(3, 0, 0, 0, 0), 2);
        due.is("P2 the fourth one", () -> x.constructor(3, 0, 0, 0, 0), 3);
        due.fails(Due.STATE, "P2 a fifth one", () -> x.constructor(3, 0, 0, 0, 0));
        due.fails(Due.ARGUMENT, "P2 a fifth one with a wrong kind", () -> x.constructor(3, 1, 6, 0, 0));
        due.is("P2 the second one of type 0", () -> x.constructor(0, 0, 0, 0, 0), 1);
    }

    private static void num() {
        Patternforge x = new Patternforge();
        for (int number : new int[] {-1, 10, TOP, LOW}) {
            due.fails(Due.ARGUMENT, "P3 num(" + number + ")", () -> x.num(number));
        }
        for (int i = 0; i < 40; i++) {
            int n = i;
            due.is("P3 num(" + n % 10 + ")", () -> x.num(n % 10), n);
        }
        due.fails(Due.STATE, "P3 a value above 40", () -> x.num(0));
        due.fails(Due.ARGUMENT, "P3 a wrong one above 40", () -> x.num(10));
        due.fails(Due.STATE, "P4 a value above 40", () -> x.seq(0, 0, 0, 0));
        due.fails(Due.ARGUMENT, "P4 a wrong one above 40", () -> x.seq(0, 1, 0, 0));
        x.constructor(0, 1, NUMBER, 0, 0);
        due.fails(Due.STATE, "P5 a value above 40", () -> x.data(0, 0, 39, NONE, NONE));
        due.fails(Due.INDEX, "P5 a wrong one above 40", () -> x.data(0, 0, 40, NONE, NONE));
        due.fails(Due.ARGUMENT, "P5 another wrong one above 40", () -> x.data(0, 0, 39, 0, NONE));
    }

    private static void seq() {
        Patternforge x = new Patternforge();
        due.is("P4 seq(0)", () -> x.seq(0, 0, 0, 0), 0);
        due.is("P4 seq(3)", () -> x.seq(3, 9, 0, 9), 1);
        for (int length : new int[] {-1, 4, TOP, LOW}) {
            due.fails(Due.ARGUMENT, "P4 length " + length, () -> x.seq(length, 0, 0, 0));
        }
        for (int number : new int[] {-1, 10, TOP, LOW}) {
            due.fails(Due.ARGUMENT, "P4 first " + number, () -> x.seq(3, number, 0, 0));
            due.fails(Due.ARGUMENT, "P4 second " + number, () -> x.seq(3, 0, number, 0));
            due.fails(Due.ARGUMENT, "P4 third " + number, () -> x.seq(3, 0, 0, number));
        }
        due.fails(Due.ARGUMENT, "P4 a first one of none", () -> x.seq(0, 1, 0, 0));
        due.fails(Due.ARGUMENT, "P4 a second one of one", () -> x.seq(1, 1, 1, 0));
        due.fails(Due.ARGUMENT, "P4 NONE for no third one", () -> x.seq(2, 1, 1, NONE));
        due.is("P4 the next one", () -> x.seq(1, 5, 0, 0), 2);
    }

    private static void data() {
        Patternforge x = new Patternforge();
        x.constructor(0, 0, 0, 0, 0);
        x.constructor(0, 3, NUMBER, SEQUENCE, 0);
        x.num(4);
        x.seq(1, 4, 0, 0);
        due.is("P5 without fields", () -> x.data(0, 0, NONE, NONE, NONE), 2);
        due.is("P5 with three fields", () -> x.data(0, 1, 0, 1, 2), 3);
        due.is("P5 of itself", () -> x.data(0, 1, 0, 1, 3), 4);
        for (int wrong : new int[] {-1, 4, TOP, LOW}) {
            due.fails(Due.INDEX, "P5 type " + wrong, () -> x.data(wrong, 0, NONE, NONE, NONE));
            due.fails(Due.INDEX, "P5 constructor " + wrong, () -> x.data(0, wrong, NONE, NONE, NONE));
        }
        due.fails(Due.INDEX, "P5 a constructor of another type", () -> x.data(1, 0, NONE, NONE, NONE));
        for (int wrong : new int[] {NONE, 5, TOP, LOW}) {
            due.fails(Due.INDEX, "P5 first " + wrong, () -> x.data(0, 1, wrong, 0, 0));
            due.fails(Due.INDEX, "P5 second " + wrong, () -> x.data(0, 1, 1, wrong, 0));
            due.fails(Due.INDEX, "P5 third " + wrong, () -> x.data(0, 1, 1, 1, wrong));
            boolean isNone = wrong == NONE;
            if (!isNone) {
                due.fails(Due.ARGUMENT, "P5 no field, and " + wrong, () -> x.data(0, 0, wrong, NONE, NONE));
            }
        }
        due.fails(Due.ARGUMENT, "P5 a sequence for a number", () -> x.data(0, 1, 1, 1, 2));
        due.fails(Due.ARGUMENT, "P5 a number for a sequence", () -> x.data(0, 1, 0, 0, 2));
        due.fails(Due.ARGUMENT, "P5 a number for a type", () -> x.data(0, 1, 0, 1, 0));
        due.fails(Due.ARGUMENT, "P5 a value for no field", () -> x.data(0, 0, NONE, NONE, 0));
        x.constructor(1, 0, 0, 0, 0);
        x.data(1, 0, NONE, NONE, NONE);
        due.fails(Due.ARGUMENT, "P5 another type", () -> x.data(0, 1, 0, 1, 5));
        due.is("P5 the next one", () -> x.data(1, 0, NONE, NONE, NONE), 6);
    }

    /** The measures, as the view 0 with a = 1 and m = 10, or a = 9, tells of them. */
    private static void measures() {
        Patternforge x = new Patternforge();
        x.constructor(0, 0, 0, 0, 0);
        x.constructor(0, 3, NUMBER, SEQUENCE, 0);
        x.constructor(0, 3, 0, 0, 0);
        x.num(7);
        x.seq(3, 9, 8, 2);
        x.data(0, 0, NONE, NONE, NONE);
        x.data(0, 1, 0, 1, 2);
        x.data(0, 2, 3, 3, 3);
        x.data(0, 2, 2, 3, 2);
        int any = x.any();
        int seen = x.view(0, any);
        int[] measure = {7, 28, 0, 5 + 7 + 2 * 28, (10 + 6 * 68) % 97, (10 + 2 * 68) % 97};
        int[] kind = {NUMBER, SEQUENCE, 0, 0, 0, 0};
        for (int i = 0; i < measure.length; i++) {
            int value = i;
            x.begin(1, kind[i], 0, 0);
            x.add(seen, NONE, NONE, 1);
            for (int m = 1; m <= 10; m++) {
                int many = m;
                x.setView(0, 1, 0, 0, m);
                x.run(0, value, NONE, NONE);
                due.is("P5 measure of " + value + " by " + m, () -> x.viewAt(0), 10 + measure[value] % many);
            }
        }
    }
}
