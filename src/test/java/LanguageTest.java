import java.lang.management.ManagementFactory;
import java.lang.reflect.Array;
import java.lang.reflect.Field;
import java.lang.reflect.Method;
import java.lang.reflect.Modifier;
import java.nio.file.Files;
import java.nio.file.Path;
import java.util.ArrayDeque;
import java.util.Deque;
import java.util.IdentityHashMap;
import java.util.List;
import java.util.Map;
import java.util.Set;
import java.util.TreeSet;
import java.util.regex.Matcher;
import java.util.regex.Pattern;

/** What can be checked of the language's rules: the face, words that are ruled out, short methods, and the room. */
public final class LanguageTest {
    private static final String SOURCE = "src/main/java/RunTapes.java";
    private static final Set<String> FACE = Set.of("feed", "end", "tell", "drawn", "draws", "clear", "settle", "grow",
        "spread", "step", "phase", "all", "record", "run", "tape", "on", "sorted", "perfect", "plan", "planned", "least",
        "depth", "units", "stands", "key", "keys", "about", "forecast", "needs", "undo", "keep", "back", "count");
    private static int wrong;

    private static void fail(String what) {
        wrong++;
        System.out.println(what);
    }

    private static void face() {
        Set<String> found = new TreeSet<>();
        for (Method m : RunTapes.class.getDeclaredMethods()) {
            if (Modifier.isPublic(m.getModifiers())) {
                found.add(m.getName());
            } else if (!Modifier.isPrivate(m.getModifiers())) {
                fail("neither public nor private: " + m);
            }
        }
        if (!found.equals(new TreeSet<>(FACE))) {
            fail("the face is " + found);
        }
        for (Class<?> inside : RunTapes.class.getDeclaredClasses()) {
            if (!Modifier.isStatic(inside.getModifiers()) || Modifier.isPublic(inside.getModifiers())) {
                fail("not static, or public: " + inside);
            }
            for (Method m : inside.getDeclaredMethods()) {
                if (FACE.contains(m.getName())) {
                    fail("bears a public method's name: " + m);
                }
            }
            fewFields(inside);
        }
        fewFields(RunTapes.class);
        if (RunTapes.class.getDeclaredClasses().length > 12) {
            fail("more than twelve classes");
        }
    }

    private static void fewFields(Class<?> one) {
        int fields = 0;
        for (Field f : one.getDeclaredFields()) {
            if (!Modifier.isStatic(f.getModifiers())) {
                fields++;
            } else if (!Modifier.isFinal(f.getModifiers())) {
                fail("static and not final: " + f);
            }
        }
        if (fields > 20) {
            fail(one + " has " + fields + " fields");
        }
    }

    private static void words() throws Exception {
        String text = Files.readString(Path.of(SOURCE));
        String code = text.replaceAll("(?s)/\\*.*?\\*/", "").replaceAll("//.*", "");
        String[] ruledOut = {"throw", "throws", "try", "catch", "synchronized", "assert", "import", "package", "protected",
            "hashCode", "toString", "Exact", "System\\.(?!arraycopy)", "Integer", "lambda", "volatile", "native"};
        for (String word : ruledOut) {
            Matcher m = Pattern.compile("\\b" + word + (word.endsWith(")") ? "" : "\\b")).matcher(code);
            if (m.find()) {
                fail("ruled out: " + word);
            }
        }
        if (code.contains("->") || code.contains("::")) {
            fail("a lambda, an arrow or a method reference");
        }
        if (text.chars().anyMatch(c -> c > 127)) {
            fail("a sign beyond 127");
        }
        shortMethods(List.of(code.split("\n")));
    }

    private static void shortMethods(List<String> lines) {
        int begin = -1;
        String end = "";
        for (int i = 0; i < lines.size(); i++) {
            String line = lines.get(i);
            if (begin < 0 && line.matches(" +(public|private) [^=;]*\\) \\{")) {
                begin = i;
                end = line.substring(0, line.indexOf('p')) + "}";
                if (line.split(",").length > 7) {
                    fail("more than seven parameters:" + line);
                }
            } else if (begin >= 0 && line.equals(end)) {
                if (i - begin > 60) {
                    fail("a long method:" + lines.get(begin));
                }
                begin = -1;
            }
        }
    }

    /** Objects and arrays, fields and elements that hang on an object. */
    private static long[] weigh(Object root) throws Exception {
        Map<Object, Boolean> seen = new IdentityHashMap<>();
        Deque<Object> open = new ArrayDeque<>(List.of(root));
        long[] sum = new long[2];
        while (!open.isEmpty()) {
            Object one = open.pop();
            if (seen.put(one, true) != null) {
                continue;
            }
            sum[0]++;
            if (one.getClass().isArray()) {
                sum[1] += Array.getLength(one);
                for (int i = 0; i < Array.getLength(one) && one instanceof Object[] row; i++) {
                    open.push(row[i]);
                }
                continue;
            }
            for (Field f : one.getClass().getDeclaredFields()) {
                if (!Modifier.isStatic(f.getModifiers())) {
                    sum[1]++;
                    f.setAccessible(true);
                    if (!f.getType().isPrimitive()) {
                        open.push(f.get(one));
                    }
                }
            }
        }
        return sum;
    }

    private static void room() throws Exception {
        RunTapes x = new RunTapes();
        long[] sum = weigh(x);
        System.out.println("a new object: " + sum[0] + " objects and arrays, " + sum[1] + " fields and elements");
        if (sum[0] > 2000 || sum[1] > 100000) {
            fail("a new object is too large");
        }
        callsMakeNothing(x);
    }

    private static void callsMakeNothing(RunTapes x) {
        com.sun.management.ThreadMXBean bean = (com.sun.management.ThreadMXBean) ManagementFactory.getThreadMXBean();
        bean.getCurrentThreadAllocatedBytes();
        work(x);
        long before = bean.getCurrentThreadAllocatedBytes();
        for (int i = 0; i < 20; i++) {
            work(x);
        }
        long made = bean.getCurrentThreadAllocatedBytes() - before;
        if (made > 4096) {
            fail("calls make objects: " + made + " bytes");
        }
    }

    private static void work(RunTapes x) {
        x.clear();
        x.drawn(100, 256);
        x.drawn(100, 256);
        x.settle(1, x.count(3) == 6 ? 4 : x.count(3) + 1);
        x.grow();
        x.plan(0);
        x.planned(1, 5, 1);
        x.stands();
        x.depth(1);
        x.least(2);
        x.units(5);
        x.keep(0);
        x.spread();
        x.forecast(1, -1);
        x.needs(3);
        x.step();
        x.undo();
        x.all();
        x.sorted(0);
        x.back(0);
        x.keys(1);
        x.about(0);
    }

    public static void main(String[] args) throws Exception {
        face();
        words();
        room();
        System.out.println(wrong == 0 ? "the language is kept to" : wrong + " rules are broken");
        if (wrong != 0) {
            System.exit(1);
        }
    }
}
