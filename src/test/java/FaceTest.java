import java.io.IOException;
import java.lang.management.ManagementFactory;
import java.lang.reflect.Constructor;
import java.lang.reflect.Field;
import java.lang.reflect.Method;
import java.lang.reflect.Modifier;
import java.nio.file.Files;
import java.nio.file.Path;
import java.util.Arrays;
import java.util.List;
import java.util.Map;
import java.util.Set;
import java.util.TreeMap;
import java.util.TreeSet;

/** The public face, with no member beside it that others could see, and the room that calls need. */
public final class FaceTest {
    private static final String INDEX = "IndexOutOfBoundsException ";
    private static final String ILLEGAL = "IllegalArgumentException ";
    private static final String UNSUPPORTED = "UnsupportedOperationException ";

    public static void main(String[] args) throws IOException {
        constants();
        constructors();
        methods();
        faceOfTheDocument();
        classesInside();
        language();
        room();
        Due.end();
    }

    private static void constants() {
        Due.is("NONE", DistanceSolver.NONE, -1);
        Due.is("NO", DistanceSolver.NO, Long.MIN_VALUE);
        Due.is("NO_FORMULA", DistanceSolver.NO_FORMULA, -20000);
        for (Field f : DistanceSolver.class.getDeclaredFields()) {
            boolean face = f.getName().equals("NONE") || f.getName().equals("NO") || f.getName().equals("NO_FORMULA");
            int due = face ? Modifier.PUBLIC | Modifier.STATIC | Modifier.FINAL : Modifier.PRIVATE;
            Due.is("modifiers of " + f.getName(), f.getModifiers() & (face ? ~0 : Modifier.PRIVATE), due);
            boolean changing = Modifier.isStatic(f.getModifiers()) && !Modifier.isFinal(f.getModifiers());
            Due.is("static state " + f.getName(), changing ? 1 : 0, 0);
        }
        Due.is("final", Modifier.toString(DistanceSolver.class.getModifiers()), "public final");
    }

    private static void constructors() {
        Constructor<?>[] all = DistanceSolver.class.getDeclaredConstructors();
        Due.is("constructors", all.length, 1);
        Due.is("the constructor", all[0].toString(), "public DistanceSolver()");
    }

    private static void methods() {
        Map<String, String> due = new TreeMap<>();
        due.put("int add(int, int, int)", INDEX + ILLEGAL + UNSUPPORTED);
        due.put("int push()", UNSUPPORTED);
        due.put("int pop(int)", ILLEGAL);
        due.put("int core(int)", INDEX);
        due.put("long value(int)", INDEX);
        due.put("long bound(int, int)", INDEX);
        due.put("int why(int, int, int)", INDEX + ILLEGAL);
        due.put("int constraint(int, int)", INDEX + ILLEGAL);
        due.put("int feed(long, int)", ILLEGAL + UNSUPPORTED);
        due.put("int read()", "");
        due.put("int fault()", "");
        due.put("int atom(int, int)", INDEX + ILLEGAL);
        due.put("int ways()", "");
        due.put("int way(int)", "");
        due.put("long valueIn(int, int)", INDEX);
        due.put("int must(int)", INDEX);
        due.put("int prove()", "");
        due.put("int written(int)", INDEX);
        due.put("int check(boolean)", "");
        due.put("int told(int)", ILLEGAL);
        due.put("void clear()", "");
        Map<String, String> got = new TreeMap<>();
        for (Method m : DistanceSolver.class.getDeclaredMethods()) {
            if (!Modifier.isPrivate(m.getModifiers())) {
                String parameters = Arrays.toString(m.getParameterTypes());
                StringBuilder thrown = new StringBuilder();
                for (Class<?> e : m.getExceptionTypes()) {
                    thrown.append(e.getSimpleName()).append(' ');
                }
                got.put(m.getReturnType() + " " + m.getName() + "(" + parameters.substring(1, parameters.length() - 1)
                        + ")", thrown.toString());
            }
        }
        Due.is("methods", got.toString(), due.toString());
    }

    /** The lines of 'The public face', as they stand in the document, against the class. */
    private static void faceOfTheDocument() throws IOException {
        Path file = Path.of("../shared/DOC.md");
        if (!Files.exists(file)) {
            System.out.println(file + " is not here: the face was not looked up");
            return;
        }
        Set<String> due = new TreeSet<>();
        String face = Files.readString(file).replaceFirst("(?s).*?```java\n", "").replaceFirst("(?s)```.*", "");
        for (String line : face.split("\n")) {
            if (line.startsWith("    public ")) {
                due.add(line.trim().replaceAll("(int|long|boolean) [a-z]+(?=[,)])", "$1").replace(", ", ",")
                        .replaceAll(" = .*|;", ""));
            }
        }
        Set<String> got = new TreeSet<>();
        for (Constructor<?> c : DistanceSolver.class.getConstructors()) {
            got.add(c.toString());
        }
        for (Field f : DistanceSolver.class.getFields()) {
            got.add(f.toString().replace("DistanceSolver.", ""));
        }
        for (Method m : DistanceSolver.class.getMethods()) {
            if (m.getDeclaringClass() == DistanceSolver.class) {
                got.add(m.toString().replace("DistanceSolver.", "").replace("java.lang.", ""));
            }
        }
        Due.is("the document's public face", got.toString(), due.toString());
    }

    /** Rules of LANGUAGE.md that are easily seen: 1 (names), 2, 4 and 6 (words), 5 (static state), 11 (parameters). */
    private static void language() throws IOException {
        names();
        words();
    }

    private static void names() {
        Set<String> face = new TreeSet<>();
        for (Method m : DistanceSolver.class.getMethods()) {
            face.add(m.getName());
        }
        for (Class<?> c : DistanceSolver.class.getDeclaredClasses()) {
            for (Method m : c.getDeclaredMethods()) {
                Due.is(c.getName() + " has a name of the face", face.contains(m.getName()) ? m.getName() : "", "");
                Due.is("parameters of " + m, m.getParameterCount() <= 7 ? 1 : 0, 1);
            }
            for (Field f : c.getDeclaredFields()) {
                boolean changing = Modifier.isStatic(f.getModifiers()) && !Modifier.isFinal(f.getModifiers());
                Due.is("static state " + f, changing ? 1 : 0, 0);
            }
        }
        for (Method m : DistanceSolver.class.getDeclaredMethods()) {
            boolean hidden = Modifier.isPrivate(m.getModifiers()) && face.contains(m.getName());
            Due.is("a private method with a name of the face", hidden ? m.getName() : "", "");
        }
    }

    private static void words() throws IOException {
        String source = Files.readString(Path.of("src/main/java/DistanceSolver.java"))
                .replaceAll("(?s)/\\*.*?\\*/|//[^\n]*", "");
        for (String word : List.of("try", "catch", "finally", "synchronized", "assert", "package", "static \\{", "::",
                "->")) {
            Due.is("the word " + word, source.matches("(?s).*(?<!\\w)" + word + "(?!\\w).*") ? 1 : 0, 0);
        }
        Due.is("imports", source.replaceAll("(?s)public final class.*", "").trim(), "import java.util.Arrays;");
    }

    private static void classesInside() {
        Class<?>[] all = DistanceSolver.class.getDeclaredClasses();
        Due.is("at most 12 classes", all.length < 12 ? 1 : 0, 1);
        for (Class<?> c : all) {
            Due.is(c.getName(), Modifier.isStatic(c.getModifiers()) && !Modifier.isPublic(c.getModifiers()) ? 1 : 0, 1);
            int fields = 0;
            for (Field f : c.getDeclaredFields()) {
                fields += Modifier.isStatic(f.getModifiers()) ? 0 : 1;
            }
            Due.is("at most 20 fields in " + c.getName(), fields <= 20 ? 1 : 0, 1);
        }
    }

    /** All calls of a run share one room, so the dearest ones, again and again, must make nothing. */
    private static void room() {
        com.sun.management.ThreadMXBean bean = (com.sun.management.ThreadMXBean) ManagementFactory.getThreadMXBean();
        long thread = Thread.currentThread().getId();
        dearCalls(new DistanceSolver());
        long before = bean.getThreadAllocatedBytes(thread);
        DistanceSolver s = new DistanceSolver();
        long made = bean.getThreadAllocatedBytes(thread);
        int answers = dearCalls(s);
        long after = bean.getThreadAllocatedBytes(thread);
        Due.is("the ways of all rows", answers, 80 * 1024);
        Due.is("a new object has at most 60000 bytes: " + (made - before), made - before <= 60000 ? 1 : 0, 1);
        Due.is("480 calls make at most 20000 bytes: " + (after - made), after - made <= 20000 ? 1 : 0, 1);
    }

    private static int dearCalls(DistanceSolver s) {
        int answers = 0;
        for (int x = 0; x < 15; x++) {
            s.add(x, x + 1, 1000);
        }
        // every row is true by it, and all of them can be
        String formula = "a-b>0|b-c>0|c-d>0|d-e>0|e-f>0|f-g>0|g-h>0|h-i>0|i-j>0|j-k>0|a-b<1";
        for (int i = 0; i < formula.length(); i++) {
            s.feed(formula.charAt(i), 1);
        }
        s.read();
        for (int i = 0; i < 80; i++) {
            s.push();
            s.add(15, 14, 900 + i);
            answers += s.ways();
            s.prove();
            s.pop(1);
        }
        return answers;
    }
}
