import java.io.IOException;
import java.lang.reflect.Array;
import java.lang.reflect.Constructor;
import java.lang.reflect.Field;
import java.lang.reflect.Method;
import java.lang.reflect.Modifier;
import java.nio.file.Files;
import java.nio.file.Path;
import java.util.IdentityHashMap;
import java.util.List;
import java.util.Map;
import java.util.Set;
import java.util.TreeSet;

/** The public face, and what of LANGUAGE.md can be seen in the class and in its source (see Rules). */
public final class LanguageTest {
    private static final Set<String> FACE = new TreeSet<>(List.of(
        "int sister()", "int feed(int,int,int,int,int)", "int end(int)", "int text()", "int fault(int)",
        "boolean by(int)", "int vow(int,int)", "int sin(int,int)", "int pass(int,int,int)", "int forgive(int)",
        "int later(int)", "int played(int)", "int storm(int,int)", "int undo()", "int stone(int,int)",
        "int veil(int,int)", "int spread()", "int level(int)", "int procession(int)", "int light(int,int,int)",
        "int done(int,int,int,boolean)", "int tell(int,int,int)", "int hush()", "int fits()", "int next()",
        "int image()", "int back()", "int about(int)"));
    /** Rules, and what breaks each if it is put into the class: without that, finding nothing would say nothing. */
    private static final String[][] BAD = {
        {"2", "private Object bad() { return new Object() { }; }"},
        {"2", "private final class Bad { }"},
        {"3", "private double bad() { return 1; }"},
        {"3", "private int[][][] bad() { return null; }"},
        {"4", "private int bad(String text) { return Integer.parseInt(text); }"},
        {"4", "private int bad(int a) { return Math.addExact(a, a); }"},
        {"5", "private static int bad = 0;"},
        {"5", "static { }"},
        {"6", "private void bad() { throw new RuntimeException(); }"},
        {"6", "private void bad() { try { now.sisters++; } finally { now.sisters--; } }"},
        {"6", "private Runnable bad() { return () -> { }; }"},
        {"6", "private boolean bad(String a, String b) { return a == b; }"},
        {"7", "private int bad(int a) { return 7 / a; }"},
        {"7", "private int bad(int a, int b) { a %= b; return a; }"},
        {"7", "private int bad(int[] row, int a) { return row[a + 1]; }"},
        {"8", "private int bad(int a) { return a < 0 ? 0 : bad(a - 1); }"},
        {"8", "private int bad() { return worse(); } private int worse() { return bad(); }"},
        {"9", "private void bad() { while (true) { now.sisters++; } }"},
        {"9", "private void bad() { for (;;) { now.sisters++; } }"},
        {"10", "private void bad(String a, int b) { String c = a + b; }"},
        {"11", "private void bad(int a, int b, int c, int d, int e, int f, int g, int h) { }"},
        {"11", "private void bad() {" + "\n".repeat(60) + "}"},
        {"11", "private int bad(int a) { return played(a); } private int worse(int a) { return bad(a); }"},
        {"11", "private static final class Bad { }"},
        {"12", "private int[] bad() { return new int[2]; }"},
    };

    private static final Check CHECK = new Check();

    public static void main(String[] args) throws Exception {
        face();
        for (Class<?> inside : VeilOfStones.class.getDeclaredClasses()) {
            inside(inside);
        }
        CHECK.due("classes, twelve at most", VeilOfStones.class.getDeclaredClasses().length <= 11, true);
        room();
        source(Files.readString(Path.of(args.length > 0 ? args[0] : "src/main/java/VeilOfStones.java")));
        CHECK.end();
    }

    private static String signature(Method method) {
        StringBuilder text = new StringBuilder(method.getReturnType() + " " + method.getName() + "(");
        Class<?>[] types = method.getParameterTypes();
        for (int i = 0; i < types.length; i++) {
            text.append(i > 0 ? "," : "").append(types[i]);
        }
        return text.append(")").toString();
    }

    private static void face() {
        Class<?> face = VeilOfStones.class;
        Set<String> names = new TreeSet<>();
        CHECK.due("public and final", face.getModifiers(), Modifier.PUBLIC | Modifier.FINAL);
        for (Method method : face.getDeclaredMethods()) {
            if (Modifier.isPublic(method.getModifiers())) {
                names.add(signature(method));
            } else {
                CHECK.due(method + " is private", Modifier.isPrivate(method.getModifiers()), true);
            }
        }
        CHECK.due("the face is " + names, names.equals(FACE), true);
        Constructor<?>[] constructors = face.getDeclaredConstructors();
        CHECK.due("one constructor", constructors.length, 1);
        CHECK.due("without parameters", constructors[0].getParameterCount(), 0);
        CHECK.due("public", Modifier.isPublic(constructors[0].getModifiers()), true);
        for (Field field : face.getDeclaredFields()) {
            boolean constant = field.getName().equals("NONE");
            CHECK.due(field + " is private unless NONE", Modifier.isPrivate(field.getModifiers()), !constant);
        }
        fields(face);
    }

    private static void inside(Class<?> inside) {
        CHECK.due(inside + " is static", Modifier.isStatic(inside.getModifiers()), true);
        CHECK.due(inside + " is private", Modifier.isPrivate(inside.getModifiers()), true);
        for (Method method : inside.getDeclaredMethods()) {
            String name = " " + method.getName() + "(";
            boolean taken = FACE.stream().anyMatch(of -> of.contains(name));
            CHECK.due(method + " has a name of the face", taken, false);
        }
        fields(inside);
    }

    private static void fields(Class<?> of) {
        int own = 0;
        for (Field field : of.getDeclaredFields()) {
            if (Modifier.isStatic(field.getModifiers())) {
                boolean plain = field.getType() == int.class || field.getType() == String.class;
                CHECK.due(field + " is a constant", plain && Modifier.isFinal(field.getModifiers()), true);
            } else {
                own++;
            }
        }
        CHECK.due(of + " has twenty fields at most", own <= 20, true);
    }

    /** A room of 600,000 objects and 7,300,000 fields and elements: some thousand convents find place in it. */
    private static void room() throws IllegalAccessException {
        Map<Object, Boolean> objects = new IdentityHashMap<>();
        int elements = elementsOf(new VeilOfStones(), objects);
        CHECK.due("a new object is " + objects.size() + " objects, 600 at most", objects.size() <= 600, true);
        CHECK.due("a new object has " + elements + " elements, 7300 at most", elements <= 7300, true);
    }

    private static int elementsOf(Object object, Map<Object, Boolean> seen) throws IllegalAccessException {
        if (object == null || seen.put(object, true) != null) {
            return 0;
        }
        int elements = 0;
        if (object.getClass().isArray()) {
            elements = Array.getLength(object);
            for (int i = 0; i < Array.getLength(object) && object instanceof Object[]; i++) {
                elements += elementsOf(Array.get(object, i), seen);
            }
            return elements;
        }
        for (Field field : object.getClass().getDeclaredFields()) {
            if (!Modifier.isStatic(field.getModifiers())) {
                field.setAccessible(true);
                elements += 1 + (field.getType().isPrimitive() ? 0 : elementsOf(field.get(object), seen));
            }
        }
        return elements;
    }

    private static void source(String source) throws IOException {
        for (String broken : Rules.broken(source)) {
            CHECK.due(broken, 1, 0);
        }
        int last = source.lastIndexOf('}');
        for (String[] bad : BAD) {
            String spoilt = source.substring(0, last) + bad[1] + "}";
            List<String> found = Rules.broken(spoilt);
            boolean seen = found.stream().anyMatch(finding -> finding.startsWith("rule " + bad[0]));
            CHECK.due("rule " + bad[0] + " is broken by " + bad[1] + ": " + found, seen, true);
        }
    }
}
