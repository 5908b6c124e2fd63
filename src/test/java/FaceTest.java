import java.lang.reflect.Constructor;
import java.lang.reflect.Field;
import java.lang.reflect.Method;
import java.lang.reflect.Modifier;
import java.nio.file.Files;
import java.nio.file.Path;
import java.util.ArrayDeque;
import java.util.ArrayList;
import java.util.Arrays;
import java.util.Deque;
import java.util.HashSet;
import java.util.IdentityHashMap;
import java.util.List;
import java.util.Map;
import java.util.Set;
import java.util.TreeSet;
import java.util.regex.Matcher;
import java.util.regex.Pattern;

/** The face of the document, its constants, and what LANGUAGE.md asks and a look at the class can tell. */
public final class FaceTest {
    private static final String[] FACE = {
        "int constructor(int, int, int, int, int) IndexOutOfBoundsException IllegalArgumentException IllegalStateException",
        "int num(int) IllegalArgumentException IllegalStateException",
        "int seq(int, int, int, int) IllegalArgumentException IllegalStateException",
        "int data(int, int, int, int, int) IndexOutOfBoundsException IllegalArgumentException IllegalStateException",
        "int any() IllegalStateException",
        "int name(int, int) IndexOutOfBoundsException IllegalArgumentException IllegalStateException",
        "int range(int, int) IllegalArgumentException IllegalStateException",
        "int make(int, int, int, int, int) IndexOutOfBoundsException IllegalArgumentException IllegalStateException",
        "int either(int, int) IndexOutOfBoundsException IllegalArgumentException IllegalStateException",
        "int view(int, int) IndexOutOfBoundsException IllegalArgumentException IllegalStateException",
        "int list(int, int, int, int) IndexOutOfBoundsException IllegalArgumentException IllegalStateException",
        "int setView(int, int, int, int, int) IndexOutOfBoundsException IllegalArgumentException",
        "int begin(int, int, int, int) IllegalArgumentException",
        "int add(int, int, int, int) IndexOutOfBoundsException IllegalArgumentException IllegalStateException",
        "int guard(int, int, int, int) IndexOutOfBoundsException IllegalArgumentException",
        "int split(int, int) IndexOutOfBoundsException IllegalStateException",
        "int merge(int, int) IndexOutOfBoundsException IllegalStateException",
        "int run(int, int, int, int) IndexOutOfBoundsException IllegalArgumentException IllegalStateException",
        "int tests()",
        "int views()",
        "int viewAt(int) IndexOutOfBoundsException",
        "int bound(int) IndexOutOfBoundsException",
        "int taken(int) IndexOutOfBoundsException",
        "int size(int, boolean) IndexOutOfBoundsException IllegalStateException",
        "int missing() IllegalStateException",
        "int example(int) IllegalStateException",
        "boolean isUsed(int) IndexOutOfBoundsException IllegalStateException",
    };

    private static final String CONSTANTS = "NONE -1 MISSED -1 RAISED -2 TOO_LARGE -3 HOLE -4 NUMBER 4 SEQUENCE 5 "
            + "NO_REST 0 AT_END 1 AT_BEGIN 2 LESS 0 SAME 1 MORE 2 RAISES 3 PLAIN 0 AUTOMATON 1 FIRST 2 MOST 3";

    private static final Set<String> LIBRARY = Set.of("java.util.Arrays");

    public static void main(String[] args) throws Exception {
        Due due = new Due("FaceTest");
        face(due);
        room(due);
        for (Class<?> c : classes()) {
            language(due, c);
        }
        due.holds(classes().size() + " classes", classes().size() <= 12);
        source(due);
        due.end();
    }

    private static List<Class<?>> classes() {
        List<Class<?>> all = new ArrayList<>(Arrays.asList(Patternforge.class.getDeclaredClasses()));
        all.add(Patternforge.class);
        return all;
    }

    private static void face(Due due) throws Exception {
        Set<String> want = new TreeSet<>(Arrays.asList(FACE));
        Set<String> names = new TreeSet<>();
        Set<String> got = new TreeSet<>();
        Class<?> c = Patternforge.class;
        for (Method m : c.getDeclaredMethods()) {
            if (!Modifier.isPrivate(m.getModifiers())) {
                StringBuilder text = new StringBuilder(m.getReturnType() + " " + m.getName());
                text.append(Arrays.toString(m.getParameterTypes()).replace('[', '(').replace(']', ')'));
                for (Class<?> e : m.getExceptionTypes()) text.append(' ').append(e.getSimpleName());
                got.add(text.toString());
                names.add(m.getName());
                due.holds(m.getName() + " is public and no other", m.getModifiers() == Modifier.PUBLIC);
            }
        }
        due.holds("the methods are " + want + ", found " + got, got.equals(want));
        for (Method m : c.getDeclaredMethods()) {
            due.holds("no private method is named " + m.getName(),
                    !Modifier.isPrivate(m.getModifiers()) || !names.contains(m.getName()));
        }
        due.holds("the class is public and final", c.getModifiers() == (Modifier.PUBLIC | Modifier.FINAL));
        Constructor<?>[] made = c.getDeclaredConstructors();
        due.holds("one public constructor", made.length == 1 && Modifier.isPublic(made[0].getModifiers())
                && made[0].getParameterCount() == 0);
        constants(due);
    }

    private static void constants(Due due) throws Exception {
        String[] words = CONSTANTS.split(" ");
        Set<String> want = new TreeSet<>();
        for (int i = 0; i < words.length; i += 2) {
            Field f = Patternforge.class.getDeclaredField(words[i]);
            due.holds(words[i], f.getModifiers() == (Modifier.PUBLIC | Modifier.STATIC | Modifier.FINAL)
                    && f.getType() == int.class && f.getInt(null) == Integer.parseInt(words[i + 1]));
            want.add(words[i]);
        }
        for (Field f : Patternforge.class.getDeclaredFields()) {
            due.holds(f.getName() + " is private", Modifier.isPrivate(f.getModifiers()) || want.contains(f.getName()));
        }
    }

    /** All that 512 new objects hold has to find room, should a run make nothing else. */
    private static void room(Due due) throws Exception {
        Map<Object, Boolean> seen = new IdentityHashMap<>();
        Deque<Object> open = new ArrayDeque<>(List.of(new Patternforge()));
        long objects = 0;
        long elements = 0;
        while (!open.isEmpty()) {
            Object o = open.pop();
            if (seen.put(o, true) != null) continue;
            objects++;
            if (o instanceof int[] row) {
                elements += row.length;
                continue;
            }
            for (Field f : o.getClass().getDeclaredFields()) {
                if (Modifier.isStatic(f.getModifiers())) continue;
                elements++;
                f.setAccessible(true);
                if (!f.getType().isPrimitive()) open.push(f.get(o));
            }
        }
        due.holds("512 times " + objects + " objects and " + elements + " elements find room",
                512 * objects < 600_000 && 512 * elements < 7_300_000);
    }

    private static void language(Due due, Class<?> c) {
        int fields = 0;
        for (Field f : c.getDeclaredFields()) {
            boolean isStatic = Modifier.isStatic(f.getModifiers());
            due.holds(c.getName() + "." + f.getName() + " is final, or not static",
                    !isStatic || Modifier.isFinal(f.getModifiers()));
            fields += isStatic ? 0 : 1;
        }
        due.holds(c.getName() + " has " + fields + " fields", fields <= 20);
        for (Method m : c.getDeclaredMethods()) {
            due.holds(c.getName() + "." + m.getName() + " has few parameters", m.getParameterCount() <= 7);
        }
        due.holds(c.getName() + " is static", c == Patternforge.class || Modifier.isStatic(c.getModifiers()));
    }

    private static void source(Due due) throws Exception {
        String text = Files.readString(Path.of("src/main/java/Patternforge.java"));
        String bare = text.replaceAll("(?s)/\\*.*?\\*/", "").replaceAll("//[^\n]*", "").replaceAll("\"[^\"]*\"", "\"\"");
        due.holds("all signs are 1 to 127", text.chars().allMatch(c -> c > 0 && c < 128));
        Matcher imports = Pattern.compile("import ([\\w.*]+);").matcher(bare);
        while (imports.find()) due.holds(imports.group(1) + " may be imported", LIBRARY.contains(imports.group(1)));
        for (String word : List.of("->", "::", "try", "catch", "finally", "synchronized", "assert", "Exact", "Object",
                "System", "Thread", "equals", "hashCode", "toString", "package", "Random", "java.lang", "throw e")) {
            String pattern = Character.isLetter(word.charAt(0)) ? "\\b" + word + "\\b" : Pattern.quote(word);
            due.holds("no " + word, !Pattern.compile(pattern).matcher(bare).find());
        }
        Set<String> known = new HashSet<>(Set.of("fill", "max", "floorMod", "bitCount"));
        Matcher calls = Pattern.compile("\\b(?:Arrays|Math|Integer)\\.(\\w+)").matcher(bare);
        while (calls.find()) due.holds(calls.group() + " may be called", known.contains(calls.group(1)));
        // Rows are read and written in the helpers alone, behind a look at the index.
        Matcher rows = Pattern.compile("\\w\\[(?!\\])[^\\]]*\\]").matcher(bare);
        List<String> indexed = new ArrayList<>();
        while (rows.find()) if (!bare.startsWith("new int", Math.max(0, rows.start() - 6))) indexed.add(rows.group());
        due.holds("rows are indexed in the helpers alone: " + indexed, indexed.size() == 3);
    }
}
