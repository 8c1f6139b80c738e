import java.io.IOException;
import java.lang.reflect.Constructor;
import java.lang.reflect.Field;
import java.lang.reflect.Method;
import java.lang.reflect.Modifier;
import java.nio.file.Files;
import java.nio.file.Path;
import java.util.ArrayList;
import java.util.Arrays;
import java.util.List;
import java.util.TreeSet;
import java.util.regex.Matcher;
import java.util.regex.Pattern;

/** The document's face, and the rules of LANGUAGE.md that can be looked at from outside. */
public final class FaceTest {
    private static final String[] FACE = {
        "int edge(int)", "int edges(int,int,int)", "int gone(int)", "int clear()", "int cut(int)", "int hit(int,int)",
        "int sweep(int,int)", "int fresh()", "int bin(int,int)", "long dense(int,int)", "int worst()", "int type(int)",
        "int wipe()", "int mode()", "int nominal(int)", "int mend(int)", "int seen(int,int)", "long stamp(int,int)",
        "long reference(int)", "int gate(int,int)", "int back()", "int where(int,int)", "long frequency(int,int,int)",
        "int closing(int)", "int chain(int,int,int)", "long fit(int,int,int)", "int off(int,int)", "long gain(int,int)",
        "long variance(int,int)", "int rank(int)", "int sheet(int,int,int)", "int lose(int)", "int put(int,int,int,int)",
        "int blank(int,int)", "long get(int,int)", "int copy(int,int,int,int,int)", "int write(int)",
        "int found(int,int)", "int count(int)", "long digest()"
    };
    private static final String[] NEVER = {
        "import ", "try ", "catch ", "throw ", "finally", "NaN", "Double.", "Float.", "->", "::", "synchronized", "assert",
        "Exact", "System.", "Random", "Thread", "while (true)", "for (;;)", "strictfp", "native ", "transient", "volatile",
        "\t"
    };

    public static void main(String[] args) throws IOException {
        face();
        constants();
        names();
        source();
        Check.end("FaceTest");
    }

    private static void face() {
        TreeSet<String> due = new TreeSet<>(Arrays.asList(FACE));
        TreeSet<String> there = new TreeSet<>();
        for (Method m : PeriodGates.class.getDeclaredMethods()) {
            if (Modifier.isPublic(m.getModifiers())) {
                there.add(told(m));
                Check.holds(m + " is no static one", !Modifier.isStatic(m.getModifiers()));
            } else {
                Check.holds(m + " is private", Modifier.isPrivate(m.getModifiers()));
            }
        }
        Check.holds("the public methods are those of the document: " + there, there.equals(due));
        int modifiers = PeriodGates.class.getModifiers();
        Check.holds("the class is public and final", Modifier.isPublic(modifiers) && Modifier.isFinal(modifiers));
        Constructor<?>[] made = PeriodGates.class.getDeclaredConstructors();
        Check.holds("one public constructor without parameters",
            made.length == 1 && Modifier.isPublic(made[0].getModifiers()) && made[0].getParameterCount() == 0);
    }

    private static String told(Method m) {
        List<String> types = new ArrayList<>();
        for (Class<?> type : m.getParameterTypes()) {
            types.add(type.getName());
        }
        return m.getReturnType() + " " + m.getName() + "(" + String.join(",", types) + ")";
    }

    private static void constants() {
        TreeSet<String> there = new TreeSet<>();
        for (Field f : PeriodGates.class.getDeclaredFields()) {
            int modifiers = f.getModifiers();
            if (Modifier.isPublic(modifiers)) {
                there.add(f.getName());
            } else {
                Check.holds(f + " is private", Modifier.isPrivate(modifiers));
            }
            Check.holds(f + " is final, if it is static", !Modifier.isStatic(modifiers) || Modifier.isFinal(modifiers));
        }
        Check.holds("the public constants", there.equals(new TreeSet<>(Arrays.asList("NONE", "BAD", "NOT", "FULL"))));
        Check.due(1, "NONE", PeriodGates.NONE, -1);
        Check.due(1, "BAD", PeriodGates.BAD, -2);
        Check.due(1, "NOT", PeriodGates.NOT, -3);
        Check.due(1, "FULL", PeriodGates.FULL, -4);
    }

    private static void names() {
        TreeSet<String> open = new TreeSet<>();
        for (String told : FACE) {
            open.add(told.substring(told.indexOf(' ') + 1, told.indexOf('(')));
        }
        Class<?>[] inside = PeriodGates.class.getDeclaredClasses();
        Check.holds("at most 12 classes", inside.length + 1 <= 12);
        for (Class<?> c : inside) {
            int modifiers = c.getModifiers();
            boolean hidden = !Modifier.isPublic(modifiers) && !Modifier.isProtected(modifiers);
            Check.holds(c + " is static and not public", hidden && Modifier.isStatic(modifiers));
            for (Method m : c.getDeclaredMethods()) {
                Check.holds(m + " bears no name of the face", !open.contains(m.getName()));
                Check.holds(m + " takes at most 7", m.getParameterCount() <= 7);
            }
        }
        for (Method m : PeriodGates.class.getDeclaredMethods()) {
            boolean own = Modifier.isPrivate(m.getModifiers());
            Check.holds(m + " bears no name of the face", !own || !open.contains(m.getName()));
        }
    }

    private static void source() throws IOException {
        List<String> lines = Files.readAllLines(Path.of("src/main/java/PeriodGates.java"));
        Pattern head = Pattern.compile("^( {4,8})\\S.*\\) \\{$");
        int begun = -1;
        String indent = "";
        for (int n = 0; n < lines.size(); n++) {
            String line = lines.get(n);
            for (String never : NEVER) {
                Check.holds("line " + (n + 1) + " is free of " + never.trim() + ": " + line, !line.contains(never));
            }
            Matcher m = head.matcher(line);
            if (begun < 0 && m.matches() && !line.contains(" class ")) {
                begun = n;
                indent = m.group(1);
            } else if (begun >= 0 && line.equals(indent + "}")) {
                Check.holds("the method at line " + (begun + 1) + " is short", n - begun < 60);
                begun = -1;
            }
        }
    }
}
