import java.lang.management.ManagementFactory;
import java.lang.reflect.Field;
import java.lang.reflect.Method;
import java.lang.reflect.Modifier;
import java.nio.file.Files;
import java.nio.file.Path;
import java.util.ArrayList;
import java.util.Arrays;
import java.util.List;
import java.util.Set;
import java.util.TreeSet;
import java.util.regex.Matcher;
import java.util.regex.Pattern;

/** The rules of LANGUAGE.md that a program can look at, and the room that a desk takes. */
public final class LanguageTest {
    private static final String SOURCE = "src/main/java/RuleChangeDesk.java";
    private static final String[] FACE = {
        "boolean net(int)", "boolean link(int,int,int,int)", "int host(int,int)", "boolean unplug(int,int)",
        "int rule(int,int,int,int,int,int)", "int strike(int,int,int)", "int copy(int,boolean)",
        "int want(int,int,int,int,int,int)", "int unwant(int)", "int look(int)", "int ofClass(int)",
        "int way(int,int,int)", "int on(int)", "int holds(int,int)", "int kept(int)", "int why(int,int)",
        "int least()", "int orders()", "boolean order(int)", "int round(int)", "void empty()", "int plan(int)",
        "int mid(int)", "boolean begin()", "int send(int,int)", "int hop(int)", "int change(int)", "int next()",
        "int run(int)", "int packet(int,int)"};
    private static int wrong = 0;

    private static void check(String what, boolean holds) {
        if (!holds) {
            wrong++;
            System.out.println("not so: " + what);
        }
    }

    public static void main(String[] args) throws Exception {
        face();
        nestedClasses();
        words(bare(Files.readString(Path.of(SOURCE))));
        methodLengths();
        room();
        System.out.println(wrong == 0 ? "all rules are kept" : wrong + " rules are not kept");
        if (wrong != 0) {
            System.exit(1);
        }
    }

    private static void face() {
        Class<?> c = RuleChangeDesk.class;
        check("public and final", Modifier.isPublic(c.getModifiers()) && Modifier.isFinal(c.getModifiers()));
        Set<String> found = new TreeSet<>();
        Set<String> hidden = new TreeSet<>();
        for (Method m : c.getDeclaredMethods()) {
            if (m.isSynthetic()) {
                continue;
            }
            if (Modifier.isPrivate(m.getModifiers())) {
                hidden.add(m.getName());
                continue;
            }
            StringBuilder b = new StringBuilder(m.getReturnType() + " " + m.getName() + "(");
            for (Class<?> p : m.getParameterTypes()) {
                b.append(b.charAt(b.length() - 1) == '(' ? "" : ",").append(p);
            }
            found.add(b.append(")").toString());
            check("public: " + m, Modifier.isPublic(m.getModifiers()) && !Modifier.isStatic(m.getModifiers()));
        }
        check("the face: " + found, found.equals(new TreeSet<>(Arrays.asList(FACE))));
        for (Method m : c.getDeclaredMethods()) {
            check("no private " + m.getName(), !Modifier.isPublic(m.getModifiers()) || !hidden.contains(m.getName()));
        }
        for (Field f : c.getDeclaredFields()) {
            check("private: " + f, Modifier.isPrivate(f.getModifiers()) || f.getName().equals("NONE"));
        }
        check("one constructor", c.getConstructors().length == 1 && c.getDeclaredConstructors().length == 1);
    }

    private static void nestedClasses() {
        Class<?>[] inside = RuleChangeDesk.class.getDeclaredClasses();
        check("at most some twelve classes", inside.length <= 12);
        for (Class<?> c : inside) {
            check("static: " + c, Modifier.isStatic(c.getModifiers()) && !Modifier.isPublic(c.getModifiers()));
            long fields = Arrays.stream(c.getDeclaredFields()).filter(f -> !Modifier.isStatic(f.getModifiers())).count();
            check("some twenty fields: " + c, fields <= 20);
            for (Method m : c.getDeclaredMethods()) {
                check("at most seven parameters: " + m, m.getParameterCount() <= 7);
            }
            for (Field f : c.getDeclaredFields()) {
                check("static is final: " + f, !Modifier.isStatic(f.getModifiers()) || Modifier.isFinal(f.getModifiers()));
            }
        }
    }

    /** The source without comments. */
    private static String bare(String source) {
        return source.replaceAll("(?s)/\\*.*?\\*/", " ").replaceAll("//[^\n]*", " ");
    }

    private static void words(String code) {
        String[] banned = {"throw", "throws", "try", "catch", "finally", "synchronized", "assert", "Exception", "Error",
            "System", "Thread", "Random", "Object", "equals", "hashCode", "toString", "package", "protected", "volatile",
            "native", "double", "float", "record", "lambda"};
        for (String word : banned) {
            check("without " + word, !Pattern.compile("\\b" + word + "\\b").matcher(code).find());
        }
        check("no lambda", !code.contains("->"));
        check("no method reference", !code.contains("::"));
        Matcher imports = Pattern.compile("import ([^;]*);").matcher(code);
        List<String> found = new ArrayList<>();
        while (imports.find()) {
            found.add(imports.group(1));
        }
        check("imports " + found, found.equals(List.of("java.util.Arrays")));
        Matcher arrays = Pattern.compile("Arrays\\.(\\w+)").matcher(code);
        while (arrays.find()) {
            check("Arrays." + arrays.group(1), Set.of("fill", "copyOf", "copyOfRange").contains(arrays.group(1)));
        }
        Matcher statics = Pattern.compile("\\b(Integer|Math)\\.(\\w+)").matcher(code);
        while (statics.find()) {
            check(statics.group(), !statics.group(2).endsWith("Exact"));
        }
        check("no division by what may be 0", !Pattern.compile("[/%]\\s*(?!PORTS\\b)\\w").matcher(code).find());
    }

    private static void methodLengths() throws Exception {
        int start = -1;
        List<String> lines = Files.readAllLines(Path.of(SOURCE));
        for (int i = 0; i < lines.size(); i++) {
            String line = lines.get(i);
            if (line.matches(" {4}( {4})?\\w[^=]*\\) \\{")) {
                start = i;
            } else if (line.matches(" {4}( {4})?}") && start >= 0) {
                check("some sixty lines from line " + (start + 1), i - start <= 60);
                start = -1;
            }
        }
    }

    /** All calls of a run live in one room: a desk makes its rows once, and a call next to nothing. */
    private static void room() {
        com.sun.management.ThreadMXBean threads =
                (com.sun.management.ThreadMXBean) ManagementFactory.getThreadMXBean();
        long id = Thread.currentThread().getId();
        calls(new RuleChangeDesk());
        long before = threads.getThreadAllocatedBytes(id);
        RuleChangeDesk desk = new RuleChangeDesk();
        long made = threads.getThreadAllocatedBytes(id);
        calls(desk);
        long after = threads.getThreadAllocatedBytes(id);
        System.out.println("a desk: " + (made - before) + " bytes; 512 calls: " + (after - made) + " bytes");
        check("a desk is small", made - before < 40_000);
        check("calls make next to nothing", after - made < 20_000);
    }

    private static void calls(RuleChangeDesk x) {
        x.net(7);
        x.host(0, 0);
        x.host(6, 3);
        for (int s = 0; s < 7; s++) {
            x.link(s, 1, (s + 1) % 7, 2);
            x.rule(0, s, 0, 0, 1, 1);
            x.rule(1, s, 0, 0, 1, s == 6 ? 3 : 1);
            x.rule(1, s, 9, 15, 2, 4);
        }
        for (int i = 0; i < 10; i++) {
            x.want(i % 5, 0, 8, i % 2, 1, 3);
        }
        for (int i = 0; i < 22; i++) {
            x.strike(0, 0, 5);
            x.copy(9, true);
            x.look(7);
            x.ofClass(i);
            x.way(i, 0, i);
            x.on(-1);
            x.holds(i, i);
            x.kept(i);
            x.why(i, 0);
            x.least();
            x.mid(0);
            x.orders();
            x.order(0);
            x.begin();
            x.send(0, 0);
            x.hop(0);
            x.change(0);
            x.packet(0, 4);
            x.unwant(0);
            x.want(4, 0, 0, 0, 0, 0);
        }
    }
}
