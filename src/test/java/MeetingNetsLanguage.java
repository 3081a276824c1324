import java.io.IOException;
import java.lang.reflect.Constructor;
import java.lang.reflect.Field;
import java.lang.reflect.Method;
import java.lang.reflect.Modifier;
import java.nio.file.Files;
import java.nio.file.Path;
import java.util.Arrays;
import java.util.List;
import java.util.Set;
import java.util.TreeSet;

/** The face is the document's, and the source keeps to those rules of ../shared/LANGUAGE.md that a look can tell. */
public final class MeetingNetsLanguage {
    private static final List<String> METHODS = List.of(
        "int feed(int,int,int,int,int)", "boolean end(int)", "int net()", "int fault()", "int now(int)",
        "int near(int) NoSuchElementException", "int line(int,int) NoSuchElementException", "int tie(int,int)",
        "int part(int,int)", "int come(int)", "int go(int)", "int covers()", "int cliques()", "int clique(int)",
        "int root(int)", "int rootLine(int,int) NoSuchElementException", "int piece()", "int pieces()",
        "int blamed(int)", "int odd(int,int,int)", "int claw()", "int meet()", "int back()", "int depth()",
        "int mending(int)", "int may(int)", "int mays()", "int colours()", "int colourAt(int)", "int apart(int)",
        "int clump(int)", "int drawn(int,int)", "int undo()", "boolean image(int)", "boolean restore(int)");
    private static int wrong;

    public static void main(String[] args) throws IOException {
        face();
        classes();
        source(Files.readAllLines(Path.of("src/main/java/MeetingNets.java")));
        System.out.println(wrong == 0 ? "the language is kept to" : wrong + " rules broken");
        if (wrong != 0) {
            System.exit(1);
        }
    }

    private static void hold(boolean held, String rule) {
        if (!held) {
            wrong++;
            System.out.println("broken: " + rule);
        }
    }

    private static void face() {
        Set<String> seen = new TreeSet<>();
        Set<String> names = new TreeSet<>();
        for (Method m : MeetingNets.class.getDeclaredMethods()) {
            if (Modifier.isPublic(m.getModifiers())) {
                seen.add(told(m));
                names.add(m.getName());
            } else {
                hold(Modifier.isPrivate(m.getModifiers()), "a method neither public nor private: " + m);
            }
        }
        hold(seen.equals(new TreeSet<>(METHODS)), "the face is " + seen);
        for (Class<?> c : withInner()) {
            for (Method m : c.getDeclaredMethods()) {
                boolean hidden = Modifier.isPrivate(m.getModifiers());
                hold(!hidden || !names.contains(m.getName()), "a private method bears a public one's name: " + m);
                hold(m.getParameterCount() <= 7, "more than seven parameters: " + m);
            }
        }
        Constructor<?>[] made = MeetingNets.class.getDeclaredConstructors();
        hold(made.length == 1 && Modifier.isPublic(made[0].getModifiers()), "one public constructor");
        for (Field f : MeetingNets.class.getDeclaredFields()) {
            boolean none = f.getName().equals("NONE") && f.getModifiers() == (Modifier.PUBLIC | Modifier.STATIC | Modifier.FINAL);
            hold(none || Modifier.isPrivate(f.getModifiers()), "a field that is not private: " + f);
        }
    }

    private static String told(Method m) {
        StringBuilder b = new StringBuilder(m.getReturnType().getName()).append(' ').append(m.getName()).append('(');
        for (Class<?> p : m.getParameterTypes()) {
            b.append(b.charAt(b.length() - 1) == '(' ? "" : ",").append(p.getName());
        }
        b.append(')');
        for (Class<?> e : m.getExceptionTypes()) {
            b.append(' ').append(e.getSimpleName());
        }
        return b.toString();
    }

    private static List<Class<?>> withInner() {
        Class<?>[] inner = MeetingNets.class.getDeclaredClasses();
        Class<?>[] all = Arrays.copyOf(inner, inner.length + 1);
        all[inner.length] = MeetingNets.class;
        return List.of(all);
    }

    private static void classes() {
        hold(Modifier.isFinal(MeetingNets.class.getModifiers()), "the class is final");
        hold(withInner().size() <= 12, "at most twelve classes");
        for (Class<?> c : withInner()) {
            hold(c == MeetingNets.class || Modifier.isPrivate(c.getModifiers()) && Modifier.isStatic(c.getModifiers()),
                "classes inside are private and static: " + c);
            int fields = 0;
            for (Field f : c.getDeclaredFields()) {
                boolean fixed = Modifier.isStatic(f.getModifiers());
                fields += fixed ? 0 : 1;
                hold(!fixed || Modifier.isFinal(f.getModifiers()) && f.getType().isPrimitive(), "a static that is no constant: " + f);
            }
            hold(fields <= 20, "at most twenty fields: " + c);
        }
    }

    private static void source(List<String> lines) {
        int opened = 0;
        for (int k = 0; k < lines.size(); k++) {
            String line = lines.get(k).strip();
            String where = "line " + (k + 1) + ": " + line;
            if (line.startsWith("*") || line.startsWith("/*") || line.startsWith("//")) {
                continue;
            }
            hold(!line.startsWith("import ") || line.equals("import java.util.NoSuchElementException;"), where);
            for (String word : List.of("->", "::", "try", "catch", "finally", "synchronized", "assert", "while",
                "instanceof", "String", "double", "float", "System.", "Exact", "package ", "@")) {
                hold(!line.contains(word), where);
            }
            // rows are made in fields alone, so no call makes an object, but for the exceptions it throws
            hold(!line.contains("new ") || line.startsWith("private final ") || line.startsWith("throw new "), where);
            boolean indexes = line.matches(".*\\w\\[\\w.*") && !line.contains("new ");
            boolean guarded = line.contains("< row.length") || k > 0 && lines.get(k - 1).contains(".length");
            hold(!indexes || guarded, "an index not looked at, " + where);
            boolean divides = line.contains(" % ") || line.contains(" / ");
            hold(!divides || line.contains("% ACTS_KEPT") || line.contains("n > 0 ?"), "a divisor not looked at, " + where);
            if (lines.get(k).matches(" {4}(    )?(public|private|static|int|boolean|void|Net) .*\\) (throws \\w+ )?\\{")) {
                opened = k;
            }
            hold(k - opened <= 60 || !line.equals("}") || !lines.get(k).matches(" {4}(    )?}"), "a long method, " + where);
        }
    }
}
