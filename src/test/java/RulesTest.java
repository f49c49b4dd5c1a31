import java.io.IOException;
import java.lang.reflect.Constructor;
import java.lang.reflect.Field;
import java.lang.reflect.Member;
import java.lang.reflect.Method;
import java.lang.reflect.Modifier;
import java.nio.charset.StandardCharsets;
import java.nio.file.Files;
import java.nio.file.Path;
import java.util.Set;
import java.util.TreeSet;
import java.util.regex.Matcher;
import java.util.regex.Pattern;

/** The face as the document has it, and the rules of LANGUAGE.md that can be seen. */
public final class RulesTest {
    private static final String FACE = "feed int int int int int int; end int int; text int int int; fault int int;"
        + " valley int int int; deed int int int int; stop int int int; state int int int int int;"
        + " keep int int int int int; say int int int int int; dare int int int boolean; plan int int int int;"
        + " odds long int int int int boolean; power long int int int int int boolean;"
        + " kinship long int int int boolean; line int int int; sight int int int; fits int int int int;"
        + " drawn int int int int int; elders int int int boolean; apart int int int int; houses int int int;"
        + " soon int int int int; most int int int int; lot int int int boolean; heaps int int boolean;"
        + " loss int int int int; wedding int int int int; after int int int int;"
        + " share long int int int boolean; later int int int; count int int; image boolean int; again boolean int";

    private RulesTest() {
    }

    public static void main(String[] args) throws IOException {
        face();
        classesInside();
        source();
        Check.finish();
    }

    private static void none(String what, String found) {
        Check.due(what + ": " + found, found.isEmpty(), true);
    }

    private static void face() {
        Class<?> c = PromiseValley.class;
        Check.due("public final class", c.getModifiers(), Modifier.PUBLIC | Modifier.FINAL);
        Set<String> want = new TreeSet<>(Set.of(FACE.split("; ")));
        Set<String> got = new TreeSet<>();
        Set<String> hidden = new TreeSet<>();
        for (Method m : c.getDeclaredMethods()) {
            StringBuilder s = new StringBuilder(m.getName()).append(' ').append(m.getReturnType());
            for (Class<?> p : m.getParameterTypes()) {
                s.append(' ').append(p);
            }
            if (Modifier.isPublic(m.getModifiers())) {
                got.add(s.toString());
            } else {
                none("not private", Modifier.isPrivate(m.getModifiers()) ? "" : m.getName());
                hidden.add(m.getName());
            }
        }
        Check.due("methods " + got, got.equals(want), true);
        for (String s : want) {
            none("private one of a public name", hidden.contains(s.split(" ")[0]) ? s : "");
        }
        for (Constructor<?> k : c.getDeclaredConstructors()) {
            Check.due("constructor", k.getParameterCount() == 0 && Modifier.isPublic(k.getModifiers()), true);
        }
        for (Field f : c.getDeclaredFields()) {
            boolean none = f.getName().equals("NONE") && f.getModifiers() == (Modifier.PUBLIC | Modifier.STATIC | Modifier.FINAL);
            none("field", none || Modifier.isPrivate(f.getModifiers()) ? "" : f.getName());
        }
        Check.due("NONE", PromiseValley.NONE, -1);
    }

    private static void classesInside() {
        Class<?>[] inside = PromiseValley.class.getDeclaredClasses();
        Check.due("classes", inside.length + 1 <= 12, true);
        for (Class<?> c : inside) {
            int m = c.getModifiers();
            none("class", Modifier.isStatic(m) && Modifier.isFinal(m) && Modifier.isPrivate(m) ? "" : c.getName());
            int fields = 0;
            for (Field f : c.getDeclaredFields()) {
                boolean fixed = Modifier.isStatic(f.getModifiers());
                fields += fixed ? 0 : 1;
                none("static field not final", fixed && !Modifier.isFinal(f.getModifiers()) ? f.toString() : "");
            }
            Check.due("fields of " + c.getName() + ": " + fields, fields <= 20, true);
            for (Method method : c.getDeclaredMethods()) {
                none("seven parameters", method.getParameterCount() > 7 ? method.toString() : "");
                none("synthetic", isSynthetic(method) ? method.toString() : "");
            }
        }
    }

    private static boolean isSynthetic(Member m) {
        return m.isSynthetic();
    }

    private static void source() throws IOException {
        byte[] bytes = Files.readAllBytes(Path.of("src/main/java/PromiseValley.java"));
        for (byte b : bytes) {
            if (b < 0) {
                none("a sign beyond 127", "yes");
            }
        }
        String all = new String(bytes, StandardCharsets.US_ASCII);
        String code = all.replaceAll("(?s)/\\*.*?\\*/", "").replaceAll("//[^\n]*", "");
        String[] never = {"\\b(throw|throws|try|catch|synchronized|assert|var|native|transient|volatile)\\b", "->", "::",
            "\\bimport\\b", "\\bpackage\\b", "Exact\\b", "\\bString\\.", "\" *\\+", "\\+ *\"", "\\.(equals|hashCode|toString|values)\\(",
            "\\bstatic \\{", "\\b(double|float)\\b", "\\[\\]\\[\\]\\[\\]", "while \\(true\\)", "for \\(;;", "\\bRandom\\b", "System\\.(?!arraycopy)"};
        for (String pattern : never) {
            Matcher m = Pattern.compile(pattern).matcher(code);
            none("in the source " + pattern, m.find() ? m.group() : "");
        }
        madeInConstructorsOnly(code);
        shortMethods(all);
    }

    /** Rows and objects are made with the object: a run of calls makes no further ones. */
    private static void madeInConstructorsOnly(String code) {
        String end = "";
        for (String line : code.split("\n")) {
            if (line.matches(" +(public )?[A-Z]\\w*\\(\\) \\{")) {
                end = line.replaceAll("\\S.*", "}");
            } else if (line.equals(end)) {
                end = "";
            }
            none("made in a call", end.isEmpty() && line.contains("new ") ? line : "");
        }
    }

    private static void shortMethods(String all) {
        int length = 0;
        String head = "";
        for (String line : all.split("\n")) {
            length++;
            if (line.matches("    (    )?\\w[^;=]*\\) \\{")) {
                head = line.trim();
                length = 1;
            } else if (line.matches("    (    )?\\}")) {
                none("a long method", length > 60 && !head.isEmpty() ? head : "");
                head = "";
            }
            none("a long line", line.length() > 110 ? line : "");
        }
    }
}
