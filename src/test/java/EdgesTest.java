import java.io.IOException;
import java.lang.reflect.InvocationTargetException;
import java.lang.reflect.Method;
import java.nio.charset.StandardCharsets;
import java.nio.file.Files;
import java.nio.file.Path;
import java.util.Arrays;
import java.util.Comparator;
import java.util.LinkedHashMap;
import java.util.Map;
import java.util.regex.Matcher;
import java.util.regex.Pattern;

/**
 * Runs the tests of the document's sentences, one by one, and looks whether each test's words stand in the document
 * and whether each word of Terms and of the promises has a test: so a sentence without one is not overlooked.
 */
public final class EdgesTest {
    private static final Class<?>[] CHAPTERS = {
        TermsEdges.class, RowEdges.class, TentEdges.class, HourEdges.class, FeelEdges.class, OrderEdges.class,
        ChanceEdges.class, ToldEdges.class,
    };
    private static final Path DOCUMENT = Path.of("../shared/DOC.md");
    private static final Pattern NAME = Pattern.compile("(use|terms|p(\\d\\d))_\\w+");

    private final Map<String, String> sections = new LinkedHashMap<>();
    private final Map<String, boolean[]> tested = new LinkedHashMap<>();

    public static void main(String[] args) throws Exception {
        EdgesTest edges = new EdgesTest();
        edges.read();
        int tests = 0;
        for (Class<?> chapter : CHAPTERS) {
            Method[] all = chapter.getDeclaredMethods();
            Arrays.sort(all, Comparator.comparing(Method::getName));
            for (Method test : all) {
                if (test.isAnnotationPresent(Says.class)) {
                    tests++;
                    edges.run(test);
                } else if (NAME.matcher(test.getName()).matches()) {
                    Due.wrong(test.getName() + " says nothing");
                }
            }
        }
        edges.lookForUntested();
        System.out.println(Due.allWrong() == 0 ? "all " + tests + " sentences hold" : Due.allWrong() + " are not as due");
        if (Due.allWrong() != 0) {
            System.exit(1);
        }
    }

    private void read() throws IOException {
        String document = Files.readString(DOCUMENT, StandardCharsets.UTF_8);
        for (String section : document.split("(?m)^## ")) {
            int end = section.indexOf('\n');
            String title = section.substring(0, Math.max(end, 0)).replaceAll(":.*", "");
            String words = section.substring(end + 1).replaceAll("(?m)^```.*$", "").replaceAll("\\s+", " ").trim();
            words = words.replaceAll("^`[^`]*`: ", "");
            sections.put(title, words);
            tested.put(title, new boolean[words.length()]);
        }
    }

    private void run(Method test) throws IllegalAccessException {
        String words = test.getAnnotation(Says.class).value();
        Matcher name = NAME.matcher(test.getName());
        if (!name.matches()) {
            Due.wrong(test.getName() + " does not tell its section");
            return;
        }
        String section = name.group(2) != null ? "Promise " + Integer.parseInt(name.group(2))
                : name.group(1).equals("use") ? "What it is" : "Terms";
        Due.begin(section + " \"" + words + "\" (" + test.getDeclaringClass().getName() + "." + test.getName() + ")");
        note(section, words);
        try {
            test.setAccessible(true);
            test.invoke(null);
        } catch (InvocationTargetException thrown) {
            thrown.getCause().printStackTrace(System.out);
            Due.wrong("threw " + thrown.getCause());
        }
        if (Due.looks() == 0) {
            Due.wrong("looks at nothing");
        }
    }

    private void note(String section, String words) {
        String all = sections.getOrDefault(section, "");
        int from = all.indexOf(words);
        if (from < 0) {
            Due.wrong("does not stand in the document");
        }
        while (from >= 0) {
            Arrays.fill(tested.get(section), from, from + words.length(), true);
            from = all.indexOf(words, from + 1);
        }
    }

    /** Which call stands in which part of the face is no sentence that could be broken. */
    private void lookForUntested() {
        for (String section : sections.keySet()) {
            if (!section.equals("Terms") && !section.startsWith("Promise")) {
                continue;
            }
            String all = sections.get(section);
            boolean[] seen = tested.get(section);
            Matcher heading = Pattern.compile("======== \\d|Ahead of the calls .*? the interface says: ---- \\d [^.(]*")
                    .matcher(all);
            while (heading.find()) {
                Arrays.fill(seen, heading.start(), heading.end(), true);
            }
            StringBuilder left = new StringBuilder();
            for (int i = 0; i < all.length(); i++) {
                left.append(seen[i] ? ' ' : all.charAt(i));
            }
            Due.begin(section);
            if (Pattern.compile("\\w").matcher(left).find()) {
                Due.wrong("no test says: " + left.toString().replaceAll("\\s+", " ").trim());
            }
        }
    }
}
