import static java.util.Map.entry;

import java.lang.management.ManagementFactory;
import java.lang.reflect.Array;
import java.lang.reflect.Constructor;
import java.lang.reflect.Field;
import java.lang.reflect.Method;
import java.lang.reflect.Modifier;
import java.nio.file.Files;
import java.nio.file.Path;
import java.util.ArrayDeque;
import java.util.Deque;
import java.util.IdentityHashMap;
import java.util.List;
import java.util.Map;
import java.util.TreeMap;
import java.util.regex.Matcher;
import java.util.regex.Pattern;

/** What can be checked of the language's rules: the face, words that are ruled out, short methods, and the room. */
public final class LanguageTest {
    private static final String SOURCE = "src/main/java/RunTapes.java";
    private static final String DOCUMENT = "../shared/DOC.md";
    /** Each method of the face, and how many numbers it takes. */
    private static final Map<String, Integer> FACE = Map.ofEntries(entry("feed", 5), entry("end", 1), entry("tell", 0),
        entry("drawn", 2), entry("draws", 1), entry("clear", 0), entry("settle", 2), entry("grow", 0), entry("spread", 0),
        entry("step", 0), entry("phase", 0), entry("all", 0), entry("record", 2), entry("run", 2), entry("tape", 2),
        entry("on", 3), entry("sorted", 1), entry("perfect", 2), entry("plan", 1), entry("planned", 3), entry("least", 1),
        entry("depth", 1), entry("units", 1), entry("stands", 0), entry("key", 2), entry("keys", 1), entry("about", 1),
        entry("forecast", 2), entry("needs", 1), entry("undo", 0), entry("keep", 1), entry("back", 1), entry("count", 1));
    private static int wrong;

    private static void fail(String what) {
        wrong++;
        System.out.println(what);
    }

    private static void face() {
        Map<String, Integer> found = new TreeMap<>();
        for (Method m : RunTapes.class.getDeclaredMethods()) {
            if (Modifier.isPublic(m.getModifiers())) {
                found.merge(m.getName(), m.getParameterCount(), (one, other) -> -1);
                numbersAlone(m);
            } else if (!Modifier.isPrivate(m.getModifiers()) || FACE.containsKey(m.getName())) {
                fail("neither public nor private, or a private one of a public name: " + m);
            }
        }
        if (!found.equals(FACE)) {
            fail("the face is " + found);
        }
        int flags = RunTapes.class.getModifiers();
        if (!Modifier.isPublic(flags) || !Modifier.isFinal(flags)) {
            fail("the class is not public and final");
        }
        constructorAndConstants();
        for (Class<?> inside : RunTapes.class.getDeclaredClasses()) {
            if (!Modifier.isStatic(inside.getModifiers()) || Modifier.isPublic(inside.getModifiers())) {
                fail("not static, or public: " + inside);
            }
            for (Method m : inside.getDeclaredMethods()) {
                if (FACE.containsKey(m.getName())) {
                    fail("bears a public method's name: " + m);
                }
            }
            fewFields(inside);
        }
        fewFields(RunTapes.class);
        if (RunTapes.class.getDeclaredClasses().length > 12) {
            fail("more than twelve classes");
        }
    }

    private static void numbersAlone(Method m) {
        boolean numbers = m.getReturnType() == int.class && !Modifier.isStatic(m.getModifiers());
        for (Class<?> one : m.getParameterTypes()) {
            numbers &= one == int.class;
        }
        if (!numbers || m.getExceptionTypes().length > 0) {
            fail("not of numbers alone: " + m);
        }
    }

    private static void constructorAndConstants() {
        Constructor<?>[] made = RunTapes.class.getDeclaredConstructors();
        if (made.length != 1 || !Modifier.isPublic(made[0].getModifiers()) || made[0].getParameterCount() != 0) {
            fail("not one public constructor without parameters");
        }
        for (Field f : RunTapes.class.getDeclaredFields()) {
            boolean ofTheFace = f.getName().equals("NONE");
            if (ofTheFace ? !Modifier.isPublic(f.getModifiers()) : !Modifier.isPrivate(f.getModifiers())) {
                fail("a field that is seen otherwise than the document tells: " + f);
            }
        }
        if (RunTapes.NONE != -1) {
            fail("NONE is " + RunTapes.NONE);
        }
    }

    /** The face above is the one that the document shows. */
    private static void faceOfTheDocument() throws Exception {
        if (!Files.exists(Path.of(DOCUMENT))) {
            System.out.println("the document is not here: the face is not compared with it");
            return;
        }
        Map<String, Integer> shown = new TreeMap<>();
        Matcher m = Pattern.compile("(?m)^    public int (\\w+)\\(([^)]*)\\);").matcher(Files.readString(Path.of(DOCUMENT)));
        while (m.find()) {
            shown.put(m.group(1), m.group(2).isEmpty() ? 0 : m.group(2).split(",").length);
        }
        if (!shown.equals(FACE)) {
            fail("the document's face is " + shown);
        }
    }

    private static void fewFields(Class<?> one) {
        int fields = 0;
        for (Field f : one.getDeclaredFields()) {
            if (!Modifier.isStatic(f.getModifiers())) {
                fields++;
            } else if (!Modifier.isFinal(f.getModifiers())) {
                fail("static and not final: " + f);
            }
        }
        if (fields > 20) {
            fail(one + " has " + fields + " fields");
        }
    }

    private static void words() throws Exception {
        String text = Files.readString(Path.of(SOURCE));
        String code = text.replaceAll("(?s)/\\*.*?\\*/", "").replaceAll("//.*", "");
        String[] ruledOut = {"throw", "throws", "try", "catch", "synchronized", "assert", "import", "package", "protected",
            "hashCode", "toString", "Exact", "System\\.(?!arraycopy)", "Integer", "lambda", "volatile", "native"};
        for (String word : ruledOut) {
            Matcher m = Pattern.compile("\\b" + word + (word.endsWith(")") ? "" : "\\b")).matcher(code);
            if (m.find()) {
                fail("ruled out: " + word);
            }
        }
        if (code.contains("->") || code.contains("::")) {
            fail("a lambda, an arrow or a method reference");
        }
        if (text.chars().anyMatch(c -> c > 127)) {
            fail("a sign beyond 127");
        }
        shortMethods(List.of(code.split("\n")));
    }

    private static void shortMethods(List<String> lines) {
        int begin = -1;
        String end = "";
        for (int i = 0; i < lines.size(); i++) {
            String line = lines.get(i);
            if (begin < 0 && line.matches(" +(public|private) [^=;]*\\) \\{")) {
                begin = i;
                end = line.substring(0, line.indexOf('p')) + "}";
                if (line.split(",").length > 7) {
                    fail("more than seven parameters:" + line);
                }
            } else if (begin >= 0 && line.equals(end)) {
                if (i - begin > 60) {
                    fail("a long method:" + lines.get(begin));
                }
                begin = -1;
            }
        }
    }

    /** Objects and arrays, fields and elements that hang on an object. */
    private static long[] weigh(Object root) throws Exception {
        Map<Object, Boolean> seen = new IdentityHashMap<>();
        Deque<Object> open = new ArrayDeque<>(List.of(root));
        long[] sum = new long[2];
        while (!open.isEmpty()) {
            Object one = open.pop();
            if (seen.put(one, true) != null) {
                continue;
            }
            sum[0]++;
            if (one.getClass().isArray()) {
                sum[1] += Array.getLength(one);
                for (int i = 0; i < Array.getLength(one) && one instanceof Object[] row; i++) {
                    open.push(row[i]);
                }
                continue;
            }
            for (Field f : one.getClass().getDeclaredFields()) {
                if (!Modifier.isStatic(f.getModifiers())) {
                    sum[1]++;
                    f.setAccessible(true);
                    if (!f.getType().isPrimitive()) {
                        open.push(f.get(one));
                    }
                }
            }
        }
        return sum;
    }

    private static void room() throws Exception {
        RunTapes x = new RunTapes();
        long[] sum = weigh(x);
        System.out.println("a new object: " + sum[0] + " objects and arrays, " + sum[1] + " fields and elements");
        if (sum[0] > 2000 || sum[1] > 100000) {
            fail("a new object is too large");
        }
        callsMakeNothing(x);
    }

    private static void callsMakeNothing(RunTapes x) {
        com.sun.management.ThreadMXBean bean = (com.sun.management.ThreadMXBean) ManagementFactory.getThreadMXBean();
        bean.getCurrentThreadAllocatedBytes();
        work(x);
        long before = bean.getCurrentThreadAllocatedBytes();
        for (int i = 0; i < 20; i++) {
            work(x);
        }
        long made = bean.getCurrentThreadAllocatedBytes() - before;
        if (made > 4096) {
            fail("calls make objects: " + made + " bytes");
        }
    }

    private static void work(RunTapes x) {
        x.clear();
        x.drawn(100, 256);
        x.drawn(100, 256);
        x.settle(1, x.count(3) == 6 ? 4 : x.count(3) + 1);
        x.grow();
        x.plan(0);
        x.planned(1, 5, 1);
        x.stands();
        x.depth(1);
        x.least(2);
        x.units(5);
        x.keep(0);
        x.spread();
        x.forecast(1, -1);
        x.needs(3);
        x.step();
        x.undo();
        x.all();
        x.sorted(0);
        x.back(0);
        x.keys(1);
        x.about(0);
    }

    public static void main(String[] args) throws Exception {
        face();
        faceOfTheDocument();
        words();
        room();
        System.out.println(wrong == 0 ? "the language is kept to" : wrong + " rules are broken");
        if (wrong != 0) {
            System.exit(1);
        }
    }
}
