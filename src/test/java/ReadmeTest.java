import java.io.IOException;
import java.lang.reflect.Field;
import java.lang.reflect.InvocationTargetException;
import java.lang.reflect.Method;
import java.lang.reflect.Modifier;
import java.net.URL;
import java.net.URLClassLoader;
import java.nio.charset.StandardCharsets;
import java.nio.file.Files;
import java.nio.file.Path;
import java.util.ArrayList;
import java.util.List;
import java.util.Set;
import java.util.TreeSet;
import java.util.function.BiConsumer;
import java.util.regex.Matcher;
import java.util.regex.Pattern;
import java.util.stream.Stream;

/**
 * README.md as it stands there: its Java is compiled and run, and each call in it must answer what its comment begins
 * with; it must name each call of the class with as many arguments as it takes, each constant, each test.
 */
public final class ReadmeTest {
    private static final Path README = Path.of("README.md"), TESTS = Path.of("src/test/java");
    private static final Pattern BLOCK = Pattern.compile("(?ms)^```java\\n(.*?)^```$");
    private static final Pattern CALL = Pattern.compile("\\s*(x\\.\\w+\\(.*\\));(?:\\s*// (-?\\d+)\\b.*)?");
    private static final Pattern NAMED = Pattern.compile("`(\\w+)\\(([\\w, ]*)\\)`");
    private static final String RUN = "ReadmeRun";

    private static int wrong;
    private static final Set<Integer> run = new TreeSet<>();
    private static int calls;

    private static void hold(boolean holds, String what) {
        if (!holds) {
            wrong++;
            System.out.println("README.md: " + what);
        }
    }

    public static void main(String[] args) throws Exception {
        String readme = Files.readString(README, StandardCharsets.UTF_8);
        namesEachCall(readme);
        namesEachConstant(readme);
        namesEachTest(readme);
        runs(readme);
        System.out.println(wrong == 0 ? "README.md holds, " + calls + " calls of it were run" : wrong + " are not as README.md says");
        if (wrong != 0) {
            System.exit(1);
        }
    }

    private static void namesEachCall(String readme) {
        Set<String> due = new TreeSet<>();
        for (Method m : TentMiddle.class.getDeclaredMethods()) {
            if (Modifier.isPublic(m.getModifiers())) {
                due.add(m.getName() + " of " + m.getParameterCount());
            }
        }
        Set<String> named = new TreeSet<>();
        Matcher call = NAMED.matcher(readme);
        while (call.find()) {
            int arguments = call.group(2).isEmpty() ? 0 : call.group(2).split(", ").length;
            String name = call.group(1) + " of " + arguments;
            hold(due.contains(name) || call.group(1).equals("TentMiddle"), "there is no call " + call.group());
            named.add(name);
        }
        due.removeAll(named);
        hold(due.isEmpty(), "does not name " + due);
    }

    private static void namesEachConstant(String readme) throws IllegalAccessException {
        for (Field f : TentMiddle.class.getDeclaredFields()) {
            if (Modifier.isPublic(f.getModifiers())) {
                String due = "`" + f.getName() + "` (" + f.getInt(null) + ")";
                hold(readme.contains(due), "does not name " + due);
            }
        }
    }

    private static void namesEachTest(String readme) throws IOException {
        try (Stream<Path> files = Files.list(TESTS)) {
            files.map(file -> file.getFileName().toString()).filter(name -> name.endsWith("Test.java"))
                    .forEach(name -> hold(readme.contains(TESTS + "/" + name), "does not name " + name));
        }
        Matcher file = Pattern.compile("`((?:src|\\.ci)/[^` ]*)`").matcher(readme);
        while (file.find()) {
            hold(Files.exists(Path.of(file.group(1))), "there is no " + file.group(1));
        }
        hold(Files.isExecutable(Path.of(".ci/run")), ".ci/run can't be run");
    }

    private static void runs(String readme) throws Exception {
        List<Integer> lines = new ArrayList<>();
        String source = source(readme, lines);
        hold(!lines.isEmpty(), "shows no call");
        Path directory = Files.createTempDirectory("readme");
        try {
            Path file = directory.resolve(RUN + ".java");
            Files.writeString(file, source, StandardCharsets.UTF_8);
            if (compile(file, directory)) {
                execute(directory);
            }
        } finally {
            Files.deleteIfExists(directory.resolve(RUN + ".java"));
            Files.deleteIfExists(directory.resolve(RUN + ".class"));
            Files.deleteIfExists(directory);
        }
        for (int line : lines) {
            hold(run.contains(line), "line " + line + " was not run");
        }
    }

    /** The Java of README.md as a class; lines keeps the numbers of the lines that have a call. */
    private static String source(String readme, List<Integer> lines) {
        StringBuilder source = new StringBuilder("public final class " + RUN + " implements Runnable {\n"
                + "private final java.util.function.BiConsumer<Integer, long[]> due;\npublic " + RUN
                + "(java.util.function.BiConsumer<Integer, long[]> due) { this.due = due; }\npublic void run() {\n");
        Matcher block = BLOCK.matcher(readme);
        while (block.find()) {
            int number = (int) readme.substring(0, block.start(1)).lines().count();
            for (String line : block.group(1).split("\n")) {
                number++;
                Matcher call = CALL.matcher(line);
                if (!call.matches()) {
                    hold(!line.replaceAll("//.*", "").contains("x."), "line " + number + " is no call with its answer");
                    source.append(line).append('\n');
                    continue;
                }
                hold(call.group(2) != null, "line " + number + " does not tell the answer");
                lines.add(number);
                source.append("due.accept(").append(number).append(", new long[] {").append(call.group(1)).append(", ")
                        .append(call.group(2)).append("L});\n");
            }
        }
        return source.append("}\n}\n").toString();
    }

    private static boolean compile(Path file, Path directory) throws IOException, InterruptedException {
        Process javac = new ProcessBuilder("javac", "--release", "17", "-cp", System.getProperty("java.class.path"),
                "-d", directory.toString(), file.toString()).redirectErrorStream(true).start();
        String said = new String(javac.getInputStream().readAllBytes(), StandardCharsets.UTF_8);
        boolean fine = javac.waitFor() == 0;
        hold(fine, "its Java can't be compiled:\n" + said);
        return fine;
    }

    private static void execute(Path directory) throws IOException, ReflectiveOperationException {
        try (URLClassLoader loader = new URLClassLoader(new URL[] {directory.toUri().toURL()})) {
            BiConsumer<Integer, long[]> due = (line, answers) -> {
                run.add(line);
                calls++;
                hold(answers[0] == answers[1], "line " + line + " answers " + answers[0]);
            };
            Runnable shown = (Runnable) loader.loadClass(RUN).getConstructor(BiConsumer.class).newInstance(due);
            shown.run();
        } catch (InvocationTargetException thrown) {
            hold(false, "threw " + thrown.getCause());
        }
    }
}
