import java.util.function.Supplier;

/** What the tests share: it counts what is as it is due, and prints what is not. */
final class Due {
    static final int INDEX = 1, ARGUMENT = 2, STATE = 3;

    private final String test;
    private int passed = 0;
    private int failed = 0;

    Due(String test) { this.test = test; }

    void is(String call, Supplier<?> got, int want) {
        String answer = answerOf(got);
        tell(call, answer, Integer.toString(want));
    }

    void is(String call, Supplier<?> got, boolean want) {
        tell(call, answerOf(got), want ? "1" : "0");
    }

    /** That a call throws, by a throw statement of the class, exactly the exception that is due. */
    void fails(int want, String call, Supplier<?> got) {
        String name = want == INDEX ? "IndexOutOfBoundsException"
                : want == ARGUMENT ? "IllegalArgumentException" : "IllegalStateException";
        tell(call, answerOf(got), "throws." + name);
    }

    void holds(String what, boolean holds) { tell(what, holds ? "1" : "0", "1"); }

    private void tell(String call, String got, String want) {
        if (got.equals(want)) {
            passed++;
        } else {
            failed++;
            System.out.println(test + ": " + call + " answered " + got + ", due is " + want);
        }
    }

    void end() {
        System.out.println(test + ": " + passed + " as due, " + failed + " not");
        if (failed != 0) System.exit(1);
    }

    static String answerOf(Supplier<?> call) {
        try {
            Object answer = call.get();
            return answer instanceof Boolean b ? (b ? "1" : "0") : answer.toString();
        } catch (RuntimeException e) {
            return "throws." + e.getClass().getSimpleName() + (isThrown(e) ? "" : " by the machine");
        }
    }

    /** Whether the class, or the model, made the exception itself: the machine's have other texts. */
    static boolean isThrown(RuntimeException e) {
        String text = e.getMessage();
        return text == null || text.startsWith("there is no such") || text.startsWith("this can not");
    }
}
