import java.io.IOException;
import java.lang.reflect.InvocationTargetException;
import java.lang.reflect.Method;
import java.nio.file.Files;
import java.nio.file.Path;
import java.util.ArrayList;
import java.util.Arrays;
import java.util.Comparator;
import java.util.LinkedHashMap;
import java.util.List;
import java.util.Map;
import java.util.regex.Matcher;
import java.util.regex.Pattern;

/** Runs the test of each sentence, and looks whether all words of the document stand in one of them. */
public final class SentencesTest {
    private static final Path DOCUMENT = Path.of("../shared/DOC.md");
    private static final Dues DUES = new Dues("sentences");
    private static final Told[] PARTS = {
        new TermsTold(), new GroupTold(), new TurnsTold(), new HeapsTold(), new ClassesTold(),
        new ActsTold(), new MadeActsTold(), new AskedActsTold(), new MapsTold(), new RowTold(),
        new ChanceTold(), new ImagesTold(), new StatusTold()};

    public static void main(String[] args) throws IOException {
        List<Holds> held = new ArrayList<>();
        for (Told part : PARTS) {
            runAll(part, held);
        }
        if (Files.exists(DOCUMENT)) {
            compare(sections(Files.readString(DOCUMENT)), held);
        }
        System.out.println("sentences: " + held.size() + " tests");
        DUES.end();
    }

    private static void runAll(Told part, List<Holds> held) {
        Method[] methods = part.getClass().getDeclaredMethods();
        Arrays.sort(methods, Comparator.comparing(Method::getName));
        for (Method method : methods) {
            Holds holds = method.getAnnotation(Holds.class);
            if (holds != null) {
                held.add(holds);
                run(part, method, holds);
            }
        }
    }

    private static void run(Told part, Method method, Holds holds) {
        String sentence = holds.in() + " \"" + holds.words() + "\":";
        int before = DUES.asked();
        part.begin(DUES, sentence);
        try {
            method.invoke(part);
        } catch (InvocationTargetException | IllegalAccessException thrown) {
            DUES.isTrue(sentence + " ends without " + thrown.getCause(), false);
        }
        DUES.isTrue(sentence + " asks for an answer", DUES.asked() > before);
    }

    /** The text under each heading, up to a colon, without the signature of a promise. */
    private static Map<String, String> sections(String document) {
        Map<String, String> texts = new LinkedHashMap<>();
        for (String section : document.split("(?m)^## ")) {
            String heading = section.split("[:\n]", 2)[0];
            String text = section.contains("\n") ? section.substring(section.indexOf('\n')) : "";
            text = text.replaceAll("(?m)^```\\w*$", " ").replaceFirst("^\\s*`[^`]*\\)`:", " ");
            texts.put(heading, plain(text));
        }
        return texts;
    }

    private static String plain(String text) {
        return text.replaceAll("\\s+", " ").strip();
    }

    private static void compare(Map<String, String> texts, List<Holds> held) {
        for (Holds holds : held) {
            String text = texts.getOrDefault(holds.in(), "");
            DUES.isTrue(holds.in() + " has \"" + holds.words() + "\"", text.contains(plain(holds.words())));
        }
        for (Map.Entry<String, String> section : texts.entrySet()) {
            if (section.getKey().matches("Terms|Promise \\d+")) {
                String left = leftOf(section.getKey(), section.getValue(), held);
                DUES.isTrue(section.getKey() + " has words that no test holds: " + left, left.isEmpty());
            }
        }
    }

    /** The words of a section that stand in no test's sentence. */
    private static String leftOf(String heading, String text, List<Holds> held) {
        StringBuilder left = new StringBuilder(text);
        for (Holds holds : held) {
            if (holds.in().equals(heading)) {
                blank(left, text, plain(holds.words()));
            }
        }
        Matcher words = Pattern.compile("[\\w-]+").matcher(left);
        StringBuilder found = new StringBuilder();
        while (words.find()) {
            found.append(words.group()).append(' ');
        }
        return found.toString().strip();
    }

    private static void blank(StringBuilder left, String text, String words) {
        for (int at = text.indexOf(words); at >= 0; at = text.indexOf(words, at + 1)) {
            for (int i = at; i < at + words.length(); i++) {
                left.setCharAt(i, ' ');
            }
        }
    }
}
