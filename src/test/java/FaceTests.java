import java.io.IOException;
import java.lang.reflect.Constructor;
import java.lang.reflect.Field;
import java.lang.reflect.Member;
import java.lang.reflect.Method;
import java.lang.reflect.Modifier;
import java.nio.charset.StandardCharsets;
import java.nio.file.Files;
import java.nio.file.Path;
import java.util.ArrayList;
import java.util.Arrays;
import java.util.List;
import java.util.Set;
import java.util.TreeSet;
import java.util.regex.Matcher;
import java.util.regex.Pattern;

/** The public face of the document, and as much of LANGUAGE.md as can be seen from outside. */
public final class FaceTests {
    private static final String[] FACE = {
        "int sign(int)", "boolean end(int)", "int club()", "int sheet(int,int,int,int,int)", "int line(int,int)",
        "int net(int)", "int debts()", "int way(int,int,int)", "int reach(int,int)", "int most(int,int)", "int ring()",
        "int rings()", "int pays(int,int,int)", "int whole(int,int,int)", "int holds(int,int,int)", "int makes(int)",
        "int letsGo(int)", "int held(int,int)", "int mostThen(int,int,int)", "int batch()", "int orders()", "int settles()",
        "int raise(int,int,int)", "int fails(int)", "int worst()", "int enough(int)", "int without(int,int,int)",
        "int key(int,int)", "int were(int,int,int,int,int)", "int both(int,int,int,int,int,int)", "int limits(int,int,int)",
        "int stocks(int,int)", "int lets(int,int,int)", "int leaves(int)", "int day()", "int undo()", "int years(int,int)",
        "boolean keep(int)", "boolean again(int)", "int count(int)", "long row(int)"};

    private static final Set<String> THROWING = Set.of("net", "held", "row");

    private static int wrong = 0;

    public static void main(String[] args) throws IOException {
        face();
        names();
        sizes();
        source(Files.readString(Path.of("src/main/java/TrustClub.java"), StandardCharsets.ISO_8859_1));
        System.out.println(wrong == 0 ? "the face and the language are as due" : wrong + " things are not as due");
        if (wrong != 0) {
            System.exit(1);
        }
    }

    private static void due(boolean holds, String what) {
        if (!holds) {
            wrong++;
            System.out.println(what);
        }
    }

    private static boolean isPrivate(Member m) {
        return Modifier.isPrivate(m.getModifiers()) || m.isSynthetic();
    }

    private static String signature(Method m) {
        StringBuilder b = new StringBuilder(m.getReturnType().getSimpleName() + " " + m.getName() + "(");
        Class<?>[] types = m.getParameterTypes();
        for (int i = 0; i < types.length; i++) {
            b.append(i == 0 ? "" : ",").append(types[i].getSimpleName());
        }
        return b.append(")").toString();
    }

    private static void face() {
        Class<?> c = TrustClub.class;
        due(Modifier.isPublic(c.getModifiers()) && Modifier.isFinal(c.getModifiers()), "the class is public and final");
        due(c.getPackageName().isEmpty(), "the class has no package");
        Set<String> open = new TreeSet<>();
        for (Method m : c.getDeclaredMethods()) {
            if (!isPrivate(m)) {
                due(Modifier.isPublic(m.getModifiers()) && !Modifier.isStatic(m.getModifiers()), signature(m) + " is public");
                open.add(signature(m));
                int throwing = THROWING.contains(m.getName()) ? 1 : 0;
                due(m.getExceptionTypes().length == throwing, signature(m) + " says what it throws");
            }
        }
        due(open.equals(new TreeSet<>(Arrays.asList(FACE))), "the methods are " + open);
        for (Field f : c.getDeclaredFields()) {
            due(isPrivate(f) || f.getName().equals("NONE"), f.getName() + " is private");
        }
        Constructor<?>[] constructors = c.getDeclaredConstructors();
        due(constructors.length == 1 && constructors[0].getParameterCount() == 0
                && Modifier.isPublic(constructors[0].getModifiers()), "one public constructor");
        due(TrustClub.NONE == -1, "NONE is -1");
    }

    private static List<Class<?>> classes() {
        List<Class<?>> all = new ArrayList<>(List.of(TrustClub.class));
        all.addAll(Arrays.asList(TrustClub.class.getDeclaredClasses()));
        return all;
    }

    private static void names() {
        Set<String> open = new TreeSet<>();
        for (Method m : TrustClub.class.getDeclaredMethods()) {
            if (!isPrivate(m)) {
                open.add(m.getName());
            }
        }
        for (Class<?> c : classes()) {
            for (Method m : c.getDeclaredMethods()) {
                due(c == TrustClub.class && !isPrivate(m) || !open.contains(m.getName()), c + " has a method of a public one's name: " + m);
            }
        }
    }

    private static void sizes() {
        due(classes().size() <= 12, "at most twelve classes");
        for (Class<?> c : classes()) {
            due(c == TrustClub.class || Modifier.isStatic(c.getModifiers()) && !Modifier.isPublic(c.getModifiers())
                    && !Modifier.isProtected(c.getModifiers()), c + " is static and not public");
            int fields = 0;
            for (Field f : c.getDeclaredFields()) {
                boolean isStatic = Modifier.isStatic(f.getModifiers());
                due(!isStatic || Modifier.isFinal(f.getModifiers()), f + " is final");
                fields += isStatic || f.isSynthetic() ? 0 : 1;
            }
            due(fields <= 20, c + " has at most twenty fields");
            for (Method m : c.getDeclaredMethods()) {
                due(m.getParameterCount() <= 7, m + " has at most seven parameters");
            }
        }
    }

    private static void source(String text) {
        for (int i = 0; i < text.length(); i++) {
            due(text.charAt(i) < 127, "a sign that is not plain at " + i);
        }
        String code = text.replaceAll("(?s)/\\*.*?\\*/", "").replaceAll("//[^\n]*", "");
        String[] none = {"->", "::", "\\btry\\b", "\\bcatch\\b", "\\bfinally\\b", "\\bsynchronized\\b", "\\bassert\\b", "Exact\\b",
            "\"\\s*\\+", "\\+\\s*\"", "\\bstatic\\s*\\{", "\\bhashCode\\b", "\\btoString\\b", "\\brandom\\b", "\\bThread\\b",
            "\\bpackage\\b", "\\bvar\\b", "\\bdouble\\b", "\\bfloat\\b"};
        for (String pattern : none) {
            due(!Pattern.compile(pattern).matcher(code).find(), "the source has " + pattern);
        }
        each(code, "\\bimport\\s+([\\w.*]+)", Set.of("java.util.NoSuchElementException"));
        each(code, "\\bSystem\\.(\\w+)", Set.of("arraycopy"));
        each(code, "\\bMath\\.(\\w+)", Set.of("max", "min"));
        each(code, "\\bInteger\\.(\\w+)", Set.of("bitCount", "numberOfTrailingZeros"));
        each(code, "\\bthrow new (\\w+)", Set.of("NoSuchElementException"));
        longMethods(text);
    }

    private static void each(String code, String pattern, Set<String> allowed) {
        Matcher m = Pattern.compile(pattern).matcher(code);
        while (m.find()) {
            due(allowed.contains(m.group(1)), "the source has " + m.group());
        }
    }

    private static void longMethods(String text) {
        int start = 0;
        String[] lines = text.split("\n");
        for (int i = 0; i < lines.length; i++) {
            if (lines[i].matches(" {4}( {4})?(\\w|\\[|\\]| )+\\(.*\\{$")) {
                start = i;
            }
            if (lines[i].matches(" {4}( {4})?\\}")) {
                due(i - start < 60, "a method of more than sixty lines ends at line " + (i + 1));
                start = i;
            }
        }
    }
}
