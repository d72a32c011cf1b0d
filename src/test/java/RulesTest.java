import java.io.IOException;
import java.lang.management.ManagementFactory;
import java.lang.reflect.Constructor;
import java.lang.reflect.Field;
import java.lang.reflect.Method;
import java.lang.reflect.Modifier;
import java.nio.file.Files;
import java.nio.file.Path;
import java.util.ArrayList;
import java.util.List;
import java.util.Set;
import java.util.TreeSet;
import java.util.regex.Matcher;
import java.util.regex.Pattern;

/** The public face, what the rules of the language forbid, and the room that long runs take. */
public final class RulesTest {
    private static final Dues DUES = new Dues("rules");
    private static final Path SOURCE = Path.of("src/main/java/MarkTables.java");
    /** A field or element is at least a byte, so fewer bytes than this are fewer of those, too. */
    private static final long ROOM = 7300000;
    private static final String[] FACE = {
        "int sheet(int, int, int)", "int write(int, int, int)", "int group(int)", "int count(int)",
        "int turn(int, int)", "int product(int, int)", "int ofTurn(int, int)", "int heap(int, int)",
        "int has(int, int)", "int join(int, int, int)", "int ofClass(int, int)", "int within(int, int, int)",
        "int table(int, int)", "int sylow(int)", "int down(int)", "int simple()", "long coset(int, int)",
        "long places(int, int, int)", "long heaps(int)", "long both(int, int, int, int)",
        "long colour(int, int, int)", "long many(int, int, int)", "long parts(int, int)", "long mark(int, int)",
        "long act(int, int, int)", "int same(int, int)", "long maps(int, int, int)", "int row(long)",
        "int check(int)", "int misfit()", "long chance(int, int)", "int rank()", "int image(int)",
        "int back(int)", "int status()"};
    private static final String[] FORBIDDEN = {"\\bthrow\\b", "\\bthrows\\b", "\\btry\\b", "\\bcatch\\b",
        "\\bsynchronized\\b", "\\bassert\\b", "->", "::", "\\bimport\\b", "\\bpackage\\b", "Exact\\b",
        "\\bstatic\\s*\\{", "\\bwhile\\s*\\(\\s*true", "\\bSystem\\.(?!arraycopy)", "\\bvar\\b", "@"};

    /** Static calls of the library that the rules leave; those that end in Exact are forbidden above. */
    private static final String LIBRARY = "(Math|Integer|Long)\\.\\w+|System\\.arraycopy|Arrays\\.(copyOf|copyOfRange|fill)";

    public static void main(String[] args) throws IOException {
        testFace();
        testInside();
        testSource();
        testRoomOfGroups();
        testRoomOfObjects();
        DUES.end();
    }

    private static void testFace() {
        Set<String> due = new TreeSet<>(List.of(FACE));
        Set<String> found = new TreeSet<>();
        Set<String> names = new TreeSet<>();
        for (Method method : MarkTables.class.getDeclaredMethods()) {
            if (Modifier.isPublic(method.getModifiers())) {
                found.add(told(method));
                names.add(method.getName());
                DUES.isTrue(method + " is no static one", !Modifier.isStatic(method.getModifiers()));
            }
        }
        DUES.isTrue("the face is " + found, found.equals(due));
        for (Method method : MarkTables.class.getDeclaredMethods()) {
            if (!Modifier.isPublic(method.getModifiers())) {
                DUES.isTrue(method + " is private", Modifier.isPrivate(method.getModifiers()));
                DUES.isTrue(method + " has a name of its own", !names.contains(method.getName()));
            }
        }
        for (Class<?> inside : MarkTables.class.getDeclaredClasses()) {
            for (Method method : inside.getDeclaredMethods()) {
                DUES.isTrue(method + " has a name of its own", !names.contains(method.getName()));
            }
        }
        for (Field field : MarkTables.class.getDeclaredFields()) {
            boolean isPublic = field.getName().equals("NONE");
            DUES.isTrue(field + " is as seen as due",
                isPublic ? Modifier.isPublic(field.getModifiers()) : Modifier.isPrivate(field.getModifiers()));
        }
        Constructor<?>[] makers = MarkTables.class.getDeclaredConstructors();
        DUES.due("constructors", makers.length, 1);
        DUES.isTrue("it is public", Modifier.isPublic(makers[0].getModifiers()));
        DUES.due("its parameters", makers[0].getParameterCount(), 0);
        DUES.isTrue("the class is final", Modifier.isFinal(MarkTables.class.getModifiers()));
    }

    private static String told(Method method) {
        List<String> types = new ArrayList<>();
        for (Class<?> type : method.getParameterTypes()) {
            types.add(type.getName());
        }
        return method.getReturnType() + " " + method.getName() + "(" + String.join(", ", types) + ")";
    }

    private static void testInside() {
        Class<?>[] inside = MarkTables.class.getDeclaredClasses();
        DUES.isTrue("few classes", inside.length < 12);
        testClass(MarkTables.class);
        for (Class<?> one : inside) {
            DUES.isTrue(one + " is static", Modifier.isStatic(one.getModifiers()));
            DUES.isTrue(one + " is not public", !Modifier.isPublic(one.getModifiers()));
            testClass(one);
        }
    }

    private static void testClass(Class<?> one) {
        int fields = 0;
        for (Field field : one.getDeclaredFields()) {
            if (Modifier.isStatic(field.getModifiers())) {
                DUES.isTrue(field + " is final", Modifier.isFinal(field.getModifiers()));
            } else {
                fields++;
            }
        }
        DUES.isTrue(one + " has few fields", fields <= 20);
        for (Method method : one.getDeclaredMethods()) {
            DUES.isTrue(method + " has few parameters", method.getParameterCount() <= 7);
        }
    }

    private static void testSource() throws IOException {
        String text = Files.readString(SOURCE);
        String code = text.replaceAll("(?s)/\\*.*?\\*/", "").replaceAll("//[^\n]*", "");
        for (String word : FORBIDDEN) {
            Matcher matcher = Pattern.compile(word).matcher(code);
            DUES.isTrue("no " + word, !matcher.find());
        }
        Matcher calls = Pattern.compile("\\b[A-Z]\\w*\\.\\w+(?=\\()").matcher(code);
        while (calls.find()) {
            DUES.isTrue(calls.group() + " is in the library that is left", calls.group().matches(LIBRARY));
        }
        int from = -1;
        String[] lines = text.split("\n");
        for (int i = 0; i < lines.length; i++) {
            if (lines[i].matches(" {4,8}\\w.*\\) \\{")) {
                from = i;
            } else if (lines[i].matches(" {4,8}\\}") && from >= 0) {
                DUES.isTrue("few lines from line " + (from + 1), i - from < 60);
                from = -1;
            }
        }
    }

    private static long bytesMade() {
        return ((com.sun.management.ThreadMXBean) ManagementFactory.getThreadMXBean())
            .getCurrentThreadAllocatedBytes();
    }

    /** The greatest groups by turns, one behind the other, with images, through 512 calls. */
    private static void testRoomOfGroups() {
        int[][][] groups = {{{1, 0}}, {{1, 2, 3, 4, 0}, {1, 0}}, {{1, 2, 3, 0}, {2, 1, 0}, {0, 1, 2, 3, 5, 4}},
            {{1, 2, 3, 0}, {1, 0}, {0, 1, 2, 3, 5, 6, 7, 4}}, {{1, 2, 3, 4, 5, 0}, {1, 0}}};
        bytesMade();
        long before = bytesMade();
        MarkTables x = new MarkTables();
        int calls = 0;
        for (int i = 0; calls < 512; i++) {
            int[][] orders = groups[i % groups.length];
            for (int s = 0; s < 4; s++) {
                int[] order = s < orders.length ? orders[s] : new int[0];
                Dues.lay(x, s, order);
                calls += 1 + order.length;
            }
            x.group(5 + i % 4);
            x.heaps(i % 8);
            x.colour(i % 7, i % 8, 2);
            x.image(i % 3);
            x.back((i + 1) % 3);
            calls += 5;
        }
        for (int i = 0; i < 512; i++) {
            x.group(8);
            x.image(i % 3);
        }
        long made = bytesMade() - before;
        System.out.println("rules: a long run makes " + made + " bytes");
        DUES.isTrue("a long run makes " + made + " bytes", made < ROOM);
    }

    private static void testRoomOfObjects() {
        bytesMade();
        long before = bytesMade();
        int status = 0;
        for (int i = 0; i < 20; i++) {
            status += new MarkTables().status();
        }
        long made = bytesMade() - before;
        System.out.println("rules: twenty new objects make " + made + " bytes");
        DUES.isTrue("twenty new objects make " + made + " bytes", made < ROOM && status == 0);
    }
}
