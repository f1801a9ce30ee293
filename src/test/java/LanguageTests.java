import java.io.IOException;
import java.lang.reflect.Constructor;
import java.lang.reflect.Field;
import java.lang.reflect.Member;
import java.lang.reflect.Method;
import java.lang.reflect.Modifier;
import java.nio.file.Files;
import java.nio.file.Path;
import java.util.ArrayList;
import java.util.Arrays;
import java.util.List;
import java.util.Set;
import java.util.TreeSet;
import java.util.regex.Pattern;

/** The rules of LANGUAGE.md that can be looked up in the compiled class or in its text; the face of DOC.md too. */
public final class LanguageTests {
    private static final Check CHECK = new Check();
    private static final Path SOURCE = Path.of("src/main/java/FieldPerms.java");
    private static final String[] FACE = {
        "int feed(int,int,int,int,int)",
        "int text(int) IllegalArgumentException",
        "int fault()",
        "int value(int,int,int) NoSuchElementException",
        "int after(int,int) NoSuchElementException IllegalStateException",
        "int again(int,int) NoSuchElementException IllegalArgumentException IllegalStateException",
        "int back(int) NoSuchElementException IllegalStateException",
        "int drop(int) NoSuchElementException",
        "int undo()",
        "int told(int) IllegalArgumentException",
        "int points(int,int,int) NoSuchElementException IllegalArgumentException",
        "int at(int,int) NoSuchElementException",
        "int coefficient(int,int) NoSuchElementException IllegalArgumentException",
        "int degree(int) NoSuchElementException",
        "int taken(int,int) NoSuchElementException",
        "int image(int) NoSuchElementException",
        "int permutes(int) NoSuchElementException",
        "int powers(int) NoSuchElementException",
        "int cycles(int,int) NoSuchElementException IllegalArgumentException IllegalStateException",
        "int order(int) NoSuchElementException IllegalStateException",
        "int even(int) NoSuchElementException IllegalStateException",
        "int orbit(int) NoSuchElementException",
        "int orbits()",
        "int spread(int) NoSuchElementException",
        "long monomials()",
        "long dicksons(int) NoSuchElementException",
        "int binomials(int) IllegalArgumentException",
        "long print()",
        "int status(int)",
    };
    private static final String[] FORBIDDEN = {
        "->", "::", "\\bfinally\\b", "\\bsynchronized\\b", "\\bassert\\b", "\\bcatch\\b", "\\btry\\b", "Exact\\s*\\(",
        "\\binstanceof\\b", "System\\.(?!arraycopy\\b)", "Arrays\\.(?!(copyOf|copyOfRange|fill)\\b)", "\\bString\\.",
        "\\bstatic\\s*\\{", "\\bpackage\\b", "\\bdouble\\b", "\\bfloat\\b", "\\bObject\\b", "\\bvolatile\\b",
        "\\bnative\\b", "while\\s*\\(\\s*true", "for\\s*\\(\\s*;\\s*;", "[^\\x00-\\x7e]", "\\t",
    };

    public static void main(String[] args) throws IOException {
        theFace();
        membersOfClasses();
        theText(Files.readString(SOURCE));
        lengthsOfMethods(Files.readAllLines(SOURCE));
        CHECK.end("LanguageTests");
    }

    private static void theFace() {
        CHECK.begin("rule 1");
        Set<String> want = new TreeSet<>(Arrays.asList(FACE));
        Set<String> got = new TreeSet<>();
        for (Method m : FieldPerms.class.getDeclaredMethods()) {
            if (!Modifier.isPrivate(m.getModifiers())) {
                got.add(told(m));
                CHECK.holds(m + " is public", Modifier.isPublic(m.getModifiers()));
            }
        }
        CHECK.holds("the methods are " + got, want.equals(got));
        CHECK.same("its kind", Modifier.PUBLIC | Modifier.FINAL, FieldPerms.class.getModifiers());
        for (Field f : FieldPerms.class.getDeclaredFields()) {
            CHECK.holds(f + " is private", Modifier.isPrivate(f.getModifiers()) || f.getName().equals("NONE"));
        }
        Constructor<?>[] made = FieldPerms.class.getDeclaredConstructors();
        CHECK.same("constructors", 1, made.length);
        CHECK.same("its parameters", 0, made[0].getParameterCount());
        CHECK.holds("it is public", Modifier.isPublic(made[0].getModifiers()));
    }

    private static String told(Method m) {
        StringBuilder text = new StringBuilder(m.getReturnType() + " " + m.getName() + "(");
        for (Class<?> c : m.getParameterTypes()) {
            text.append(text.charAt(text.length() - 1) == '(' ? "" : ",").append(c);
        }
        text.append(")");
        for (Class<?> c : m.getExceptionTypes()) {
            text.append(" ").append(c.getSimpleName());
        }
        return text.toString();
    }

    private static void membersOfClasses() {
        CHECK.begin("rules 1, 5, 11");
        List<Class<?>> all = new ArrayList<>(Arrays.asList(FieldPerms.class.getDeclaredClasses()));
        CHECK.holds("at most twelve classes", all.size() < 12);
        for (Class<?> c : all) {
            int kind = c.getModifiers();
            CHECK.holds(c + " is static", Modifier.isStatic(kind));
            CHECK.holds(c + " is hidden", !Modifier.isPublic(kind) && !Modifier.isProtected(kind));
        }
        all.add(FieldPerms.class);
        Set<String> face = new TreeSet<>();
        for (String f : FACE) {
            face.add(f.substring(f.indexOf(' ') + 1, f.indexOf('(')));
        }
        for (Class<?> c : all) {
            int fields = 0;
            for (Field f : c.getDeclaredFields()) {
                fields += isStatic(f) ? 0 : 1;
                CHECK.holds(f + " is no state of all", !isStatic(f) || Modifier.isFinal(f.getModifiers()));
            }
            CHECK.holds(c + " has at most twenty fields", fields <= 20);
            for (Method m : c.getDeclaredMethods()) {
                CHECK.holds(m + " has at most seven parameters", m.getParameterCount() <= 7);
                CHECK.holds(m + " does not bear a public one's name", c == FieldPerms.class
                        && !Modifier.isPrivate(m.getModifiers()) || !face.contains(m.getName()));
            }
        }
    }

    private static boolean isStatic(Member m) {
        return Modifier.isStatic(m.getModifiers());
    }

    private static void theText(String text) {
        CHECK.begin("rules 2 to 6");
        String code = text.replaceAll("(?s)/\\*.*?\\*/", "").replaceAll("//[^\n]*", "");
        for (String f : FORBIDDEN) {
            CHECK.holds("without " + f, !Pattern.compile(f).matcher(code).find());
        }
        for (String line : code.split("\n")) {
            CHECK.holds(line, !line.startsWith("import") || line.equals("import java.util.NoSuchElementException;"));
            CHECK.holds(line + " throws what it may", !line.contains("throw new") || line.matches(
                    " *throw new (NoSuchElement|IllegalArgument|IllegalState)Exception\\(\"[a-z ]*\"\\);"));
            CHECK.holds(line + " is short", line.length() <= 120);
        }
    }

    /** Members of classes inside stand eight blanks in, those of the class itself four. */
    private static void lengthsOfMethods(List<String> lines) {
        CHECK.begin("rule 11");
        int from = 0;
        for (int i = 0; i < lines.size(); i++) {
            String line = lines.get(i);
            if (line.matches("( {4}| {8})[^ /*}].*\\{") && !line.contains(" class ")) {
                from = i;
            }
            if (line.matches("( {4}| {8})\\}")) {
                CHECK.holds("the method that ends at line " + (i + 1) + " is short", i - from <= 60
                        || lines.get(i - 1).equals("        }"));
            }
        }
    }
}
