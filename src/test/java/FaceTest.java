import java.lang.reflect.Constructor;
import java.lang.reflect.Field;
import java.lang.reflect.Method;
import java.lang.reflect.Modifier;
import java.nio.charset.StandardCharsets;
import java.nio.file.Files;
import java.nio.file.Path;
import java.util.Set;
import java.util.TreeSet;
import java.util.regex.Matcher;
import java.util.regex.Pattern;

/** The public face, to the letter, and those rules of LANGUAGE.md that can be read off the class or its text. */
public final class FaceTest {
    static final String[] FACE = {
        "feed int", "trip", "fault", "told int", "cord int int", "road int int", "lift int int int", "drive int int",
        "stop", "rain int", "runs int int", "pick", "drift int int", "undo int", "highest int", "slack int int",
        "far int int", "stops int int", "soonest int", "where int int", "hand int int", "van int int int",
        "knots int int", "see int int int boolean", "was int int", "tries int int", "write int int", "judge", "tear",
        "seed int", "keep int", "goBack int"};
    static final String[] RULED_OUT = {
        "\\bthrow", "\\btry\\b", "\\bcatch\\b", "\\bsynchronized\\b", "\\bassert\\b", "->", "::", "\\bimport\\b",
        "\\bpackage\\b", "\\bstatic\\s*\\{", "Exact\\b", "\\bprotected\\b", "\\bRandom\\b", "\\bThread\\b",
        "\\bnanoTime\\b", "\\bcurrentTimeMillis\\b", "\\bhashCode\\b", "\\btoString\\b", "\\bvar\\b", "\\bextends\\b",
        "while \\(true\\)", "for \\(;;\\)", "\\bdouble\\b", "\\bfloat\\b", "@"};
    static final Set<String> LIBRARY = Set.of("Math.max", "Math.min", "Math.floorMod", "System.arraycopy");
    static int wrong = 0;

    public static void main(String[] args) throws Exception {
        constants();
        members();
        classesInside();
        text();
        madeInConstructorsAlone();
        shortMethods();
        System.out.println(wrong == 0 ? "FaceTest: the face is as due" : "FaceTest: " + wrong + " faults");
        if (wrong > 0) System.exit(1);
    }

    static void check(boolean right, String what) {
        if (!right) {
            wrong++;
            System.out.println(what);
        }
    }

    static void constants() {
        check(RoofMattress.NONE == -1, "NONE");
        check(RoofMattress.UNKNOWN == -1000000001, "UNKNOWN");
        check(RoofMattress.OUTSIDE == -1000000002, "OUTSIDE");
        check(RoofMattress.NOT == -1000000003, "NOT");
        check(RoofMattress.FULL == -1000000004, "FULL");
    }

    static void members() {
        Class<?> c = RoofMattress.class;
        check(Modifier.isPublic(c.getModifiers()) && Modifier.isFinal(c.getModifiers()), "public final class");
        Constructor<?>[] made = c.getDeclaredConstructors();
        check(made.length == 1 && made[0].getParameterCount() == 0 && Modifier.isPublic(made[0].getModifiers()), "constructor");
        Set<String> open = new TreeSet<>(), closed = new TreeSet<>();
        for (Method m : c.getDeclaredMethods()) {
            if (Modifier.isPrivate(m.getModifiers())) {
                closed.add(m.getName());
                continue;
            }
            check(Modifier.isPublic(m.getModifiers()) && !Modifier.isStatic(m.getModifiers()) && m.getReturnType() == int.class, m.toString());
            StringBuilder sign = new StringBuilder(m.getName());
            for (Class<?> p : m.getParameterTypes()) sign.append(' ').append(p.getName());
            open.add(sign.toString());
        }
        check(open.equals(new TreeSet<>(Set.of(FACE))), "methods: " + open);
        for (String s : FACE) check(!closed.contains(s.split(" ")[0]), "a private method bears the name of " + s);
        for (Field f : c.getDeclaredFields()) {
            boolean constant = Set.of("NONE", "UNKNOWN", "OUTSIDE", "NOT", "FULL").contains(f.getName());
            check(constant ? Modifier.isPublic(f.getModifiers()) : Modifier.isPrivate(f.getModifiers()), "field " + f.getName());
            check(!Modifier.isStatic(f.getModifiers()) || Modifier.isFinal(f.getModifiers()), "static field " + f.getName());
        }
    }

    static void classesInside() {
        Class<?>[] inside = RoofMattress.class.getDeclaredClasses();
        check(inside.length <= 11, "classes");
        fields(RoofMattress.class);
        for (Class<?> in : inside) {
            check(Modifier.isStatic(in.getModifiers()) && !Modifier.isPublic(in.getModifiers()), "class " + in.getName());
            check(in.getDeclaredClasses().length == 0, "a class inside " + in.getName());
            for (Method m : in.getDeclaredMethods()) {
                check(m.getParameterCount() <= 7, "parameters of " + m.getName());
                for (String s : FACE) check(!m.getName().equals(s.split(" ")[0]), in.getName() + " has a method " + s);
            }
            fields(in);
        }
    }

    /** Some twenty beside constants; what is static is final, a number or numbers written out. */
    static void fields(Class<?> c) {
        int own = 0;
        for (Field f : c.getDeclaredFields()) {
            Class<?> type = f.getType().isArray() ? f.getType().getComponentType() : f.getType();
            boolean ours = type.getEnclosingClass() == RoofMattress.class;
            check(type == int.class || type == boolean.class || ours, "type of " + c.getName() + "." + f.getName());
            if (!Modifier.isStatic(f.getModifiers())) {
                own++;
                continue;
            }
            check(Modifier.isFinal(f.getModifiers()) && type == int.class, "static " + c.getName() + "." + f.getName());
        }
        check(own <= 20, own + " fields of " + c.getName());
    }

    /** The class without its comments. */
    static String code() throws Exception {
        String all = Files.readString(Path.of("src/main/java/RoofMattress.java"), StandardCharsets.US_ASCII);
        return Pattern.compile("/\\*.*?\\*/|//[^\\n]*", Pattern.DOTALL).matcher(all).replaceAll("");
    }

    static void text() throws Exception {
        String code = code();
        for (String s : RULED_OUT) check(!Pattern.compile(s).matcher(code).find(), "LANGUAGE.md rules out " + s);
        Matcher m = Pattern.compile("\\b(?:Math|System|Integer|Long|Arrays|String|List)\\.\\w+").matcher(code);
        while (m.find()) check(LIBRARY.contains(m.group()), "the library's " + m.group());
    }

    /** All calls of a run live in one room: no call makes anything, fields alone do. */
    static void madeInConstructorsAlone() throws Exception {
        Pattern field = Pattern.compile("\\s*(?:private )?final [\\w\\[\\]]+ \\w+ = new [^;]+;");
        for (String line : code().split("\n")) {
            if (Pattern.compile("\\bnew\\b|\\.clone\\(|copyOf").matcher(line).find()) {
                check(field.matcher(line).matches(), "made in a call: " + line);
            }
        }
    }

    /** Some sixty lines at most, from a head to the brace below it. */
    static void shortMethods() throws Exception {
        String[] lines = code().split("\n");
        for (int i = 0; i < lines.length; i++) {
            Matcher head = Pattern.compile("( +)[\\w ]+\\([\\w, \\[\\]]*\\) \\{").matcher(lines[i]);
            if (!head.matches()) continue;
            int end = i + 1;
            while (end < lines.length && !lines[end].equals(head.group(1) + "}")) end++;
            check(end - i <= 60, "too long: " + lines[i]);
        }
    }
}
