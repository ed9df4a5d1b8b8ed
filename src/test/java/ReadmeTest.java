import java.lang.reflect.Method;
import java.lang.reflect.Modifier;
import java.nio.file.Files;
import java.nio.file.Path;
import java.util.List;
import java.util.Set;
import java.util.TreeSet;
import java.util.regex.Matcher;
import java.util.regex.Pattern;

/** README.md: each call that it shows answers what stands behind it, and it shows each call of the face. */
public final class ReadmeTest {
    private static final String NEW_DESK = "RuleChangeDesk desk = new RuleChangeDesk();";
    private static final Pattern CALL = Pattern.compile("desk\\.(\\w+)\\(([^)]*)\\);\\s*// (.*)");
    private static final Pattern ANSWER = Pattern.compile("(true|false|NONE|-?\\d+)(:| |$).*");

    private static final Set<String> SHOWN = new TreeSet<>();
    private static RuleChangeDesk desk;

    public static void main(String[] args) throws Exception {
        String text = Files.readString(Path.of("README.md"));
        showsWhatCallsAnswer(text.lines().toList());
        showsEachCall();
        namesEachTest(text);
        namesEachClassInside(text);
        Check.finish();
    }

    private static void showsWhatCallsAnswer(List<String> lines) throws Exception {
        boolean inCode = false;
        for (String line : lines) {
            if (line.startsWith("```")) {
                inCode = line.equals("```java");
            } else if (inCode && line.equals(NEW_DESK)) {
                desk = new RuleChangeDesk();
            } else if (inCode) {
                answersWhatIsSaid(line);
            }
        }
    }

    private static void answersWhatIsSaid(String line) throws Exception {
        Matcher call = CALL.matcher(line);
        if (!call.matches() || desk == null) {
            Check.wrong("README.md: not a call with a comment: " + line);
            return;
        }
        String[] words = call.group(2).isEmpty() ? new String[0] : call.group(2).split(", ");
        Method method = methodOf(call.group(1), words.length);
        SHOWN.add(method.getName());
        Object got = method.invoke(desk, valuesOf(words));
        Matcher answer = ANSWER.matcher(call.group(3));
        boolean isAsDue = method.getReturnType() == void.class
                || answer.matches() && valueOf(answer.group(1)).equals(got);
        if (!isAsDue) {
            Check.wrong("README.md: answered " + got + ": " + line);
        }
    }

    private static Method methodOf(String name, int parameters) {
        for (Method m : RuleChangeDesk.class.getDeclaredMethods()) {
            if (m.getName().equals(name) && m.getParameterCount() == parameters && Modifier.isPublic(m.getModifiers())) {
                return m;
            }
        }
        throw new IllegalStateException("README.md: no call " + name + " with " + parameters + " numbers");
    }

    private static Object[] valuesOf(String[] words) {
        Object[] values = new Object[words.length];
        for (int i = 0; i < words.length; i++) {
            values[i] = valueOf(words[i]);
        }
        return values;
    }

    private static Object valueOf(String word) {
        switch (word) {
            case "true":
            case "false":
                return Boolean.valueOf(word);
            case "NONE":
            case "RuleChangeDesk.NONE":
                return RuleChangeDesk.NONE;
            default:
                return Integer.valueOf(word);
        }
    }

    private static void showsEachCall() {
        for (Method m : RuleChangeDesk.class.getDeclaredMethods()) {
            if (Modifier.isPublic(m.getModifiers()) && !SHOWN.contains(m.getName())) {
                Check.wrong("README.md does not show " + m.getName());
            }
        }
    }

    private static void namesEachTest(String text) throws Exception {
        try (var files = Files.list(Path.of("src/test/java"))) {
            for (Path file : files.toList()) {
                String name = file.getFileName().toString().replace(".java", "");
                if (!text.contains("`" + name + "`")) {
                    Check.wrong("README.md does not name " + name);
                }
            }
        }
    }

    private static void namesEachClassInside(String text) {
        for (Class<?> c : RuleChangeDesk.class.getDeclaredClasses()) {
            if (!text.contains("`" + c.getSimpleName() + "`")) {
                Check.wrong("README.md does not name " + c.getSimpleName());
            }
        }
    }
}
