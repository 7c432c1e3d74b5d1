import java.io.IOException;
import java.lang.reflect.InvocationTargetException;
import java.lang.reflect.Method;
import java.lang.reflect.Modifier;
import java.nio.charset.StandardCharsets;
import java.nio.file.Files;
import java.nio.file.Path;
import java.util.regex.Matcher;
import java.util.regex.Pattern;

/** The examples of README.md answer what stands behind them, and it names each call of the face. */
public final class ReadmeTests {
    private static final Pattern BLOCK = Pattern.compile("(?s)```java\n(.*?)```");
    private static final Pattern EXAMPLE = Pattern.compile("club\\.(\\w+)\\(([^)]*)\\); +// (-?\\d+|true|false)\\b.*");
    private static final String MAKING = "TrustClub club = new TrustClub();";

    private static int wrong = 0;
    private static int examples = 0;

    public static void main(String[] args) throws IOException, IllegalAccessException {
        String text = Files.readString(Path.of("README.md"), StandardCharsets.UTF_8);
        makeExamples(text);
        for (Method m : TrustClub.class.getDeclaredMethods()) {
            due(!Modifier.isPublic(m.getModifiers()) || text.contains("`" + m.getName() + "`"), "README.md does not name " + m.getName());
        }
        due(text.contains("\n.ci/run\n"), "README.md does not say how to run the tests");
        due(examples > 0, "README.md has no examples");
        System.out.println(wrong == 0 ? examples + " examples of README.md hold" : wrong + " things are not as due");
        if (wrong != 0) {
            System.exit(1);
        }
    }

    private static void due(boolean holds, String what) {
        if (!holds) {
            wrong++;
            System.out.println(what);
        }
    }

    /** The blocks go on with one object, but where a line makes a new one. */
    private static void makeExamples(String text) throws IllegalAccessException {
        TrustClub club = new TrustClub();
        Matcher block = BLOCK.matcher(text);
        while (block.find()) {
            for (String line : block.group(1).split("\n")) {
                Matcher m = EXAMPLE.matcher(line);
                if (line.equals(MAKING)) {
                    club = new TrustClub();
                } else if (m.matches()) {
                    examples++;
                    String got = answer(club, m.group(1), m.group(2));
                    due(got.equals(m.group(3)), "answered " + got + ": " + line);
                } else {
                    due(false, "no answer stands behind: " + line);
                }
            }
        }
    }

    private static String answer(TrustClub club, String name, String arguments) throws IllegalAccessException {
        String[] words = arguments.isEmpty() ? new String[0] : arguments.split(", ");
        Object[] numbers = new Object[words.length];
        for (int i = 0; i < words.length; i++) {
            numbers[i] = Integer.decode(words[i]);
        }
        for (Method m : TrustClub.class.getMethods()) {
            if (m.getDeclaringClass() == TrustClub.class && m.getName().equals(name) && m.getParameterCount() == numbers.length) {
                try {
                    return String.valueOf(m.invoke(club, numbers));
                } catch (InvocationTargetException e) {
                    return e.getCause().getClass().getSimpleName();
                }
            }
        }
        return "no such call";
    }
}
