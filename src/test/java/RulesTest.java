import com.sun.management.ThreadMXBean;
import java.io.IOException;
import java.lang.management.ManagementFactory;
import java.lang.reflect.Constructor;
import java.lang.reflect.Field;
import java.lang.reflect.Method;
import java.lang.reflect.Modifier;
import java.nio.file.Files;
import java.nio.file.Path;
import java.util.ArrayList;
import java.util.Arrays;
import java.util.List;
import java.util.Set;
import java.util.TreeSet;
import java.util.regex.Matcher;
import java.util.regex.Pattern;

/** The face as the document writes it, LANGUAGE.md as far as a test can see it, and the room that a run takes. */
public final class RulesTest {
    private static final Check CHECK = new Check();
    /** 7.3 million fields and elements of 4 bytes are all that the calls of one run may take together. */
    private static final long MOST_BYTES = 4 * 7_300_000L;
    private static final int MOST_LINES = 66;
    private static final int MOST_CLASSES = 13;
    private static final int MOST_FIELDS = 22;
    private static final String[] FACE = {"int feed(int,int,int,int,int)", "int field(int) IllegalArgumentException",
        "int law(int,int) IllegalArgumentException", "int work(int) IllegalArgumentException",
        "int book(int) IllegalArgumentException", "int fault()", "int undo()", "int told(int) IllegalArgumentException",
        "int stone(int,int) NoSuchElementException IllegalArgumentException",
        "int cell(int,int,int) IndexOutOfBoundsException IllegalArgumentException",
        "int sledge(int) IllegalArgumentException", "int sums(int) IllegalArgumentException",
        "int damage(int,int,int) IndexOutOfBoundsException IllegalArgumentException",
        "int rises(int,int) IndexOutOfBoundsException", "int clear(int) NoSuchElementException",
        "int stops(int,int) IllegalArgumentException", "long way(int) IllegalArgumentException",
        "int heaps(int,int) IllegalArgumentException", "int line(int,int) IllegalArgumentException",
        "long first(int,int) IllegalArgumentException", "int mix(int,int,int,int) IllegalArgumentException",
        "int enough(int,int) IllegalArgumentException", "int left(int,int) IllegalArgumentException", "int fits()",
        "int frost(int,int,int,int) IllegalArgumentException", "int span(int,int,int,int,int,int) IllegalArgumentException",
        "int chosen(int) IllegalArgumentException", "int lifts(int,int) IndexOutOfBoundsException",
        "long loads(int,int) IndexOutOfBoundsException", "int stoniest()", "int clean()", "int image()", "int restore()",
        "int status(int)", "int count(int)"};

    public static void main(String[] args) throws IOException {
        face();
        noPublicNameTwice();
        classes();
        List<String> lines = Files.readAllLines(Path.of("src/main/java/FieldStones.java"));
        words(lines);
        methodLengths(lines);
        CHECK.isTrue("12: the room of 512 calls is " + roomOfARun() + " bytes", roomOfARun() <= MOST_BYTES);
        CHECK.end();
    }

    private static String told(Method m) {
        StringBuilder text = new StringBuilder(m.getReturnType().getSimpleName()).append(' ').append(m.getName()).append('(');
        for (Class<?> type : m.getParameterTypes()) {
            text.append(text.charAt(text.length() - 1) == '(' ? "" : ",").append(type.getSimpleName());
        }
        text.append(')');
        for (Class<?> type : m.getExceptionTypes()) {
            text.append(' ').append(type.getSimpleName());
        }
        return text.toString();
    }

    private static void face() {
        Set<String> found = new TreeSet<>();
        for (Method m : FieldStones.class.getDeclaredMethods()) {
            if (Modifier.isPublic(m.getModifiers())) {
                found.add(told(m));
            } else {
                CHECK.isTrue("1: private " + m, Modifier.isPrivate(m.getModifiers()));
            }
        }
        CHECK.isTrue("1: the face is " + found, found.equals(new TreeSet<>(Arrays.asList(FACE))));
        for (Field f : FieldStones.class.getDeclaredFields()) {
            CHECK.isTrue("1: field " + f, Modifier.isPrivate(f.getModifiers()) || f.getName().equals("NONE"));
        }
        Constructor<?>[] made = FieldStones.class.getDeclaredConstructors();
        CHECK.is("1: one constructor", 1, made.length);
        CHECK.isTrue("1: public, without arguments",
                made[0].getParameterCount() == 0 && Modifier.isPublic(made[0].getModifiers()));
        CHECK.isTrue("1: public and final", (FieldStones.class.getModifiers() & (Modifier.PUBLIC | Modifier.FINAL))
                == (Modifier.PUBLIC | Modifier.FINAL));
    }

    private static void noPublicNameTwice() {
        Set<String> names = new TreeSet<>();
        for (Method m : FieldStones.class.getDeclaredMethods()) {
            if (Modifier.isPublic(m.getModifiers())) {
                names.add(m.getName());
            }
        }
        List<Method> inner = new ArrayList<>();
        for (Class<?> c : FieldStones.class.getDeclaredClasses()) {
            inner.addAll(Arrays.asList(c.getDeclaredMethods()));
        }
        for (Method m : FieldStones.class.getDeclaredMethods()) {
            if (!Modifier.isPublic(m.getModifiers())) {
                inner.add(m);
            }
        }
        for (Method m : inner) {
            CHECK.isTrue("1: a public name again: " + m, !names.contains(m.getName()));
            CHECK.isTrue("11: at most seven parameters: " + m, m.getParameterCount() <= 7);
        }
    }

    private static void classes() {
        Class<?>[] inner = FieldStones.class.getDeclaredClasses();
        CHECK.isTrue("11: at most some twelve classes", inner.length <= MOST_CLASSES);
        List<Class<?>> all = new ArrayList<>(Arrays.asList(inner));
        all.add(FieldStones.class);
        for (Class<?> c : all) {
            CHECK.isTrue("1: " + c, c == FieldStones.class || !Modifier.isPublic(c.getModifiers())
                    && Modifier.isStatic(c.getModifiers()));
            int fields = 0;
            for (Field f : c.getDeclaredFields()) {
                fields += Modifier.isStatic(f.getModifiers()) ? 0 : 1;
                CHECK.isTrue("5: " + f, !Modifier.isStatic(f.getModifiers()) || Modifier.isFinal(f.getModifiers()));
            }
            CHECK.isTrue("11: fields of " + c, fields <= MOST_FIELDS);
        }
    }

    /** What the rules leave no place for, wherever it stands; a comment may name it. */
    private static void words(List<String> lines) {
        String[] never = {"::", "finally", "synchronized", "assert ", "hashCode", ".equals(this", "System.out", "System.err",
            "System.nano", "System.current", "Random", "Thread", "Object ", "Exact(", "getClass", "getMessage", "throw null",
            "static {", "while (true)", "for (;;)"};
        for (String line : lines) {
            String code = line.strip().startsWith("*") || line.strip().startsWith("/") ? "" : line.replaceAll("//.*", "");
            for (String word : never) {
                CHECK.isTrue("LANGUAGE: " + word + " in " + line, !code.contains(word));
            }
            CHECK.isTrue("2: no lambda: " + line, !code.contains("->") || code.contains("case ") || code.contains("default"));
            for (int i = 0; i < line.length(); i++) {
                CHECK.isTrue("LANGUAGE: signs 1 to 127 in " + line, line.charAt(i) < 128);
            }
            CHECK.isTrue("4: " + line, !line.startsWith("import ") || IMPORTS.contains(line));
            CHECK.isTrue("1: no package", !line.startsWith("package"));
        }
    }

    private static final List<String> IMPORTS = List.of("import java.util.Arrays;", "import java.util.ArrayList;",
        "import java.util.List;", "import java.util.Iterator;", "import java.util.NoSuchElementException;");

    private static void methodLengths(List<String> lines) {
        Pattern head = Pattern.compile("^( +)[\\w\\[\\] ]*\\w+\\([^;]*\\{$");
        for (int i = 0; i < lines.size(); i++) {
            Matcher m = head.matcher(lines.get(i));
            if (m.matches()) {
                String end = m.group(1) + "}";
                int length = 0;
                while (i + length < lines.size() && !lines.get(i + length).equals(end)) {
                    length++;
                }
                CHECK.isTrue("11: at most some sixty lines: " + lines.get(i), length <= MOST_LINES);
            }
        }
    }

    private static long roomOfARun() {
        ThreadMXBean threads = (ThreadMXBean) ManagementFactory.getThreadMXBean();
        long self = Thread.currentThread().getId();
        long before = threads.getThreadAllocatedBytes(self);
        FieldStones x = new FieldStones();
        for (int i = 0; i < 80; i++) {
            if (i % 10 == 0) {
                x.feed(0x77696e74, 0x65723b77, 0x61676169, 0x6e20323b, 0x20202020);
                x.work(7);
            }
            x.span(i, 3, 5, 3, 20, 1);
            x.heaps(i % 60, 1);
            x.first(999, 2);
            x.stops(1, 2);
            x.image();
            x.undo();
        }
        return threads.getThreadAllocatedBytes(self) - before;
    }
}
