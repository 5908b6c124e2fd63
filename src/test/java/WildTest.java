import java.lang.reflect.InvocationTargetException;
import java.lang.reflect.Method;
import java.util.ArrayList;
import java.util.Arrays;
import java.util.Comparator;
import java.util.List;
import java.util.Map;
import java.util.Random;
import java.util.TreeMap;

/** Any arguments in any state: what a call throws is named by its clause, and thrown by the class. */
public final class WildTest {
    private static final int OBJECTS = 1200;
    private static final int CALLS = 512;

    private static final Due due = new Due("WildTest");
    private static final Map<String, Integer> outcomes = new TreeMap<>();

    public static void main(String[] args) throws Exception {
        Method[] all = Patternforge.class.getDeclaredMethods();
        List<Method> face = new ArrayList<>();
        for (Method m : all) if (java.lang.reflect.Modifier.isPublic(m.getModifiers())) face.add(m);
        // The order of getDeclaredMethods is free.
        face.sort(Comparator.comparing(Method::getName));
        for (int seed = 0; seed < OBJECTS; seed++) wild(face, new Random(seed * 0x9E3779B97F4A7C15L), seed);
        for (Method m : face) {
            due.holds(m.getName() + " has answered", outcomes.containsKey(m.getName()));
            for (Class<?> e : m.getExceptionTypes()) {
                due.holds(m.getName() + " has thrown " + e.getSimpleName(), outcomes.containsKey(m.getName() + " " + e.getName()));
            }
        }
        due.end();
    }

    private static void wild(List<Method> face, Random random, int seed) throws Exception {
        Patternforge x = new Patternforge();
        if (seed % 3 > 0) furnish(x, random);
        int bound = 1 + random.nextInt(12);
        boolean isFar = random.nextInt(4) == 0;
        int kinds = random.nextInt(4);
        String wrong = null;
        for (int i = 0; i < CALLS && wrong == null; i++) {
            Method m = face.get(random.nextInt(face.size()));
            // A begin now and then leaves the cases time to come.
            if (m.getName().equals("begin") && random.nextInt(6) > 0) continue;
            Object[] told = new Object[m.getParameterCount()];
            for (int j = 0; j < told.length; j++) {
                told[j] = m.getParameterTypes()[j] == boolean.class ? (Object) random.nextBoolean()
                        : (Object) number(random, bound, isFar, kinds);
            }
            wrong = outcome(x, m, told);
        }
        due.holds("seed " + seed + ": " + wrong, wrong == null);
    }

    /** Values, patterns and a match, so that more calls have something to speak of. */
    private static void furnish(Patternforge x, Random random) {
        for (int type = 0; type < 2; type++) {
            x.constructor(type, 0, 0, 0, 0);
            x.constructor(type, 2, 4, type, 0);
        }
        int many = random.nextInt(2) == 0 ? 38 : 5;
        for (int i = 0; i < many; i++) x.num(random.nextInt(10));
        x.any();
        x.range(0, random.nextInt(10));
        x.name(0, 1);
        x.view(0, random.nextInt(2));
        x.either(random.nextInt(2), 1);
        x.make(0, 1, random.nextInt(5), 0, -1);
        if (random.nextInt(4) == 0) for (int i = 0; i < 50; i++) x.either(0, i % 2);
        int columns = 1 + random.nextInt(3);
        x.begin(columns, 4, columns > 1 ? 4 : 0, columns > 2 ? 4 : 0);
        x.add(random.nextInt(5), columns > 1 ? 1 : -1, columns > 2 ? 1 : -1, 5);
    }

    private static int number(Random random, int bound, boolean isFar, int kinds) {
        if (isFar && random.nextInt(8) == 0) return random.nextInt();
        if (isFar && random.nextInt(20) == 0) return random.nextBoolean() ? Integer.MIN_VALUE : Integer.MAX_VALUE;
        int k = random.nextInt(10);
        if (k < 2) return -1;
        return k < 5 ? 0 : k < 7 ? kinds : random.nextInt(bound);
    }

    private static String outcome(Patternforge x, Method m, Object[] told) throws Exception {
        String call = m.getName() + Arrays.toString(told);
        try {
            m.invoke(x, told);
            outcomes.merge(m.getName(), 1, Integer::sum);
            return null;
        } catch (InvocationTargetException e) {
            Throwable t = e.getCause();
            outcomes.merge(m.getName() + " " + t.getClass().getName(), 1, Integer::sum);
            boolean isNamed = Arrays.asList(m.getExceptionTypes()).contains(t.getClass());
            boolean isThrown = t instanceof RuntimeException r && Due.isThrown(r);
            return isNamed && isThrown ? null : call + " threw " + t;
        }
    }
}
