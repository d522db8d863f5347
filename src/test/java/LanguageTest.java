import java.lang.reflect.Constructor;
import java.lang.reflect.Field;
import java.lang.reflect.Method;
import java.lang.reflect.Modifier;
import java.nio.file.Files;
import java.nio.file.Path;
import java.util.ArrayList;
import java.util.Arrays;
import java.util.List;
import java.util.Set;
import java.util.TreeSet;
import java.util.regex.Matcher;
import java.util.regex.Pattern;

/** The public face, and what of LANGUAGE.md can be seen in the class and in its source. */
public final class LanguageTest {
    private static final Set<String> FACE = new TreeSet<>(List.of(
        "int sister()", "int feed(int,int,int,int,int)", "int end(int)", "int text()", "int fault(int)",
        "boolean by(int)", "int vow(int,int)", "int sin(int,int)", "int pass(int,int,int)", "int forgive(int)",
        "int later(int)", "int played(int)", "int storm(int,int)", "int undo()", "int stone(int,int)",
        "int veil(int,int)", "int spread()", "int level(int)", "int procession(int)", "int light(int,int,int)",
        "int done(int,int,int,boolean)", "int tell(int,int,int)", "int hush()", "int fits()", "int next()",
        "int image()", "int back()", "int about(int)"));
    private static final Set<String> LIBRARY = Set.of(
        "Math.max", "Math.min", "Math.abs", "Math.floorMod", "Integer.bitCount", "Integer.compare", "System.arraycopy");
    private static final Pattern FORBIDDEN = Pattern.compile(
        "\\b(throw|throws|try|catch|finally|synchronized|assert|import|package|float|double|var|yield|volatile)\\b"
        + "|->|::|@|\\bnew\\s+\\w+\\s*\\([^)]*\\)\\s*\\{");
    private static final Pattern METHOD = Pattern.compile(
        "^ +(?:(?:public|private|static|final) )*[\\w\\[\\]]+ (\\w+)\\(([^)]*)\\) \\{$");

    private static final Check CHECK = new Check();

    public static void main(String[] args) throws Exception {
        face();
        for (Class<?> inside : VeilOfStones.class.getDeclaredClasses()) {
            inside(inside);
        }
        CHECK.due("classes, twelve at most", VeilOfStones.class.getDeclaredClasses().length <= 11, true);
        source(Files.readString(Path.of(args.length > 0 ? args[0] : "src/main/java/VeilOfStones.java")));
        CHECK.end();
    }

    private static String signature(Method method) {
        StringBuilder text = new StringBuilder(method.getReturnType() + " " + method.getName() + "(");
        Class<?>[] types = method.getParameterTypes();
        for (int i = 0; i < types.length; i++) {
            text.append(i > 0 ? "," : "").append(types[i]);
        }
        return text.append(")").toString();
    }

    private static void face() {
        Class<?> face = VeilOfStones.class;
        Set<String> names = new TreeSet<>();
        CHECK.due("public and final", face.getModifiers(), Modifier.PUBLIC | Modifier.FINAL);
        for (Method method : face.getDeclaredMethods()) {
            if (Modifier.isPublic(method.getModifiers())) {
                names.add(signature(method));
            } else {
                CHECK.due(method + " is private", Modifier.isPrivate(method.getModifiers()), true);
            }
        }
        CHECK.due("the face is " + names, names.equals(FACE), true);
        Constructor<?>[] constructors = face.getDeclaredConstructors();
        CHECK.due("one constructor", constructors.length, 1);
        CHECK.due("without parameters", constructors[0].getParameterCount(), 0);
        CHECK.due("public", Modifier.isPublic(constructors[0].getModifiers()), true);
        for (Field field : face.getDeclaredFields()) {
            boolean constant = field.getName().equals("NONE");
            CHECK.due(field + " is private unless NONE", Modifier.isPrivate(field.getModifiers()), !constant);
        }
        fields(face);
    }

    private static void inside(Class<?> inside) {
        CHECK.due(inside + " is static", Modifier.isStatic(inside.getModifiers()), true);
        CHECK.due(inside + " is private", Modifier.isPrivate(inside.getModifiers()), true);
        for (Method method : inside.getDeclaredMethods()) {
            String name = " " + method.getName() + "(";
            boolean taken = FACE.stream().anyMatch(of -> of.contains(name));
            CHECK.due(method + " has a name of the face", taken, false);
        }
        fields(inside);
    }

    private static void fields(Class<?> of) {
        int own = 0;
        for (Field field : of.getDeclaredFields()) {
            if (Modifier.isStatic(field.getModifiers())) {
                boolean plain = field.getType() == int.class || field.getType() == String.class;
                CHECK.due(field + " is a constant", plain && Modifier.isFinal(field.getModifiers()), true);
            } else {
                own++;
            }
        }
        CHECK.due(of + " has twenty fields at most", own <= 20, true);
    }

    private static void source(String source) {
        String code = source.replaceAll("(?s)/\\*.*?\\*/", "").replaceAll("//[^\n]*", "");
        code = code.replaceAll("\"[^\"\n]*\"", "TEXT").replaceAll("'\\\\?.'", "SIGN");
        Matcher forbidden = FORBIDDEN.matcher(code);
        while (forbidden.find()) {
            CHECK.due("LANGUAGE.md rules out " + forbidden.group(), 1, 0);
        }
        Matcher library = Pattern.compile("\\b(?:Math|Integer|Long|System|Arrays|String|Character|Object)\\.\\w+")
            .matcher(code);
        while (library.find()) {
            CHECK.due("LANGUAGE.md has " + library.group(), LIBRARY.contains(library.group()), true);
        }
        methods(code.lines().toList());
    }

    private static void methods(List<String> lines) {
        List<String> found = new ArrayList<>();
        for (int i = 0; i < lines.size(); i++) {
            Matcher method = METHOD.matcher(lines.get(i));
            if (method.find()) {
                String indent = lines.get(i).substring(0, lines.get(i).length() - lines.get(i).stripLeading().length());
                int last = i;
                while (last < lines.size() && !lines.get(last).equals(indent + "}")) {
                    last++;
                }
                found.add(method.group(1));
                CHECK.due(method.group(1) + " has sixty lines at most", last - i <= 60, true);
                long parameters = Arrays.stream(method.group(2).split(",")).filter(p -> !p.isBlank()).count();
                CHECK.due(method.group(1) + " has seven parameters at most", parameters <= 7, true);
            }
        }
        CHECK.due("methods were found", found.size() > 100, true);
    }
}
