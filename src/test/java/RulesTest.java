import java.io.IOException;
import java.lang.reflect.Constructor;
import java.lang.reflect.Field;
import java.lang.reflect.Method;
import java.lang.reflect.Modifier;
import java.nio.charset.StandardCharsets;
import java.nio.file.Files;
import java.nio.file.Path;
import java.util.Arrays;
import java.util.List;
import java.util.Set;
import java.util.TreeSet;
import java.util.regex.Matcher;
import java.util.regex.Pattern;

/** The public face of the document, and those rules of LANGUAGE.md that a program can look after. */
public final class RulesTest {
    private static final String FACE = "int row(int,int) int lay(int,int,int) int at(int,int) int tear(int) "
            + "int copy(int,int,int,int,int) int mean(int) int text(int,int) int put(int,int,int) int fault(int) "
            + "int tent(int) int sleeper(int,int) int mark(int,int) int vent(int) int bottle(int) int turns(int) "
            + "int change(int,int) int bags(int,int) int lie(int) int hour() int night() int undo(int) int now() "
            + "int keep(int) int on(int) int feels(int,int) int why(int,int) int sleeps(int) int slept(int) "
            + "int coldest() int good(int) int worth() int best(int) int fair(int) int turning() int warm() "
            + "int thin(int) int nights(int,int) int nth(int,int) int out(int) int whose(int) int kinds(int,int) "
            + "int odds(int,int,int) int lots(int) int asked() long upper() long lower() int count(int) "
            + "int finding() int findings(int) long digest()";
    private static final Set<String> CONSTANTS = Set.of("BAD=-1", "FULL=-2", "FINDING=-3", "STATE=-4", "SPENT=-6", "NONE=-9");
    private static final List<String> FORBIDDEN = List.of("\\bthrow\\b", "\\bthrows\\b", "\\btry\\b", "\\bcatch\\b",
            "\\bfinally\\b", "\\bsynchronized\\b", "\\bassert\\b", "->", "::", "\\binstanceof\\b", "@", "\\bThread\\b",
            "\\bRandom\\b", "System\\.(?!arraycopy\\b)", "Exact\\b", "\\bString\\b", "^\\s*package\\b", "\\bstatic\\s*\\{",
            "\\bhashCode\\b", "\\bequals\\b", "while \\(true\\)", "for \\(;", "\\bvar\\b");
    private static final int LONGEST_METHOD = 60, MOST_PARAMETERS = 7, MOST_CLASSES = 12, MOST_FIELDS = 20;

    private static int wrong;

    private static void hold(boolean holds, String what) {
        if (!holds) {
            wrong++;
            System.out.println("not so: " + what);
        }
    }

    public static void main(String[] args) throws Exception {
        face();
        for (Class<?> c : TentMiddle.class.getDeclaredClasses()) {
            insideClass(c);
        }
        hold(TentMiddle.class.getDeclaredClasses().length <= MOST_CLASSES, "few classes");
        source();
        room();
        System.out.println(wrong == 0 ? "the rules are kept" : wrong + " rules are not kept");
        if (wrong != 0) {
            System.exit(1);
        }
    }

    private static void face() throws IllegalAccessException {
        Class<?> c = TentMiddle.class;
        hold(Modifier.isPublic(c.getModifiers()) && Modifier.isFinal(c.getModifiers()), "public and final");
        Set<String> methods = new TreeSet<>();
        Set<String> names = new TreeSet<>();
        for (Method m : c.getDeclaredMethods()) {
            if (Modifier.isPublic(m.getModifiers())) {
                methods.add(signature(m));
                names.add(m.getName());
                hold(!Modifier.isStatic(m.getModifiers()), m + " is of an object");
            }
        }
        hold(methods.equals(new TreeSet<>(Arrays.asList(FACE.split("(?<=\\)) ")))), "the methods of the face: " + methods);
        for (Method m : c.getDeclaredMethods()) {
            boolean isPrivate = Modifier.isPrivate(m.getModifiers());
            hold(Modifier.isPublic(m.getModifiers()) || isPrivate, m + " is public or private");
            hold(!isPrivate || !names.contains(m.getName()), m + " bears no public name");
        }
        for (Class<?> inside : c.getDeclaredClasses()) {
            for (Method m : inside.getDeclaredMethods()) {
                hold(!names.contains(m.getName()), m + " bears no public name");
            }
        }
        Set<String> constants = new TreeSet<>();
        for (Field f : c.getDeclaredFields()) {
            if (Modifier.isPublic(f.getModifiers())) {
                hold(Modifier.isStatic(f.getModifiers()) && f.getType() == int.class, f + " is a constant");
                constants.add(f.getName() + "=" + f.getInt(null));
            } else {
                hold(Modifier.isPrivate(f.getModifiers()), f + " is private");
            }
        }
        hold(constants.equals(new TreeSet<>(CONSTANTS)), "the constants: " + constants);
        Constructor<?>[] constructors = c.getDeclaredConstructors();
        hold(constructors.length == 1 && constructors[0].getParameterCount() == 0
                && Modifier.isPublic(constructors[0].getModifiers()), "one public constructor");
        fields(c);
    }

    private static String signature(Method m) {
        StringBuilder s = new StringBuilder(m.getReturnType() + " " + m.getName() + "(");
        for (Class<?> p : m.getParameterTypes()) {
            s.append(s.charAt(s.length() - 1) == '(' ? "" : ",").append(p);
        }
        return s.append(')').toString();
    }

    private static void insideClass(Class<?> c) {
        hold(Modifier.isStatic(c.getModifiers()) && !Modifier.isPublic(c.getModifiers())
                && !Modifier.isProtected(c.getModifiers()), c + " is static and not public");
        fields(c);
    }

    private static void fields(Class<?> c) {
        int many = 0;
        for (Field f : c.getDeclaredFields()) {
            if (!Modifier.isStatic(f.getModifiers())) {
                many++;
            } else {
                hold(Modifier.isFinal(f.getModifiers()), f + " is final");
                hold(f.getType().isPrimitive(), f + " is a number");
            }
        }
        hold(many <= MOST_FIELDS, c + " has " + many + " fields");
        for (Method m : c.getDeclaredMethods()) {
            hold(m.getParameterCount() <= MOST_PARAMETERS, m + " has few parameters");
        }
    }

    private static void source() throws IOException {
        String source = Files.readString(Path.of("src/main/java/TentMiddle.java"), StandardCharsets.ISO_8859_1);
        hold(source.chars().allMatch(sign -> sign < 127), "plain signs only");
        String code = Pattern.compile("/\\*.*?\\*/", Pattern.DOTALL).matcher(source).replaceAll("").replaceAll("//[^\n]*", "");
        hold(!code.contains("\""), "no texts");
        for (String forbidden : FORBIDDEN) {
            Matcher m = Pattern.compile(forbidden, Pattern.MULTILINE).matcher(code);
            hold(!m.find(), "no " + forbidden);
        }
        Matcher imports = Pattern.compile("import ([^;]+);").matcher(code);
        while (imports.find()) {
            hold(imports.group(1).equals("java.util.Arrays"), "no import of " + imports.group(1));
        }
        methodLengths(source);
    }

    /** A method ends at the first closing brace as far in as its heading. */
    private static void methodLengths(String source) {
        String[] lines = source.split("\n");
        for (int from = 0; from < lines.length; from++) {
            Matcher heading = Pattern.compile("^( +)[\\w\\[\\] ]+\\(.*\\) \\{$").matcher(lines[from]);
            if (heading.matches() && !lines[from].matches(" +(for|if|while|switch|} else).*")) {
                int to = from;
                while (!lines[to].equals(heading.group(1) + "}")) {
                    to++;
                }
                hold(to - from <= LONGEST_METHOD, "short: " + lines[from].trim());
            }
        }
    }

    /** All calls of a run share one room, so calls make nothing: what they need was made with the object. */
    private static void room() {
        com.sun.management.ThreadMXBean threads =
                (com.sun.management.ThreadMXBean) java.lang.management.ManagementFactory.getThreadMXBean();
        TentMiddle x = new TentMiddle();
        String tent = "c34567865 s24 n36 d15 h33 t27";
        x.text(0, tent.length());
        for (int i = 0; i < tent.length(); i++) {
            x.put(0, i, tent.charAt(i));
        }
        dearCalls(x);
        long before = threads.getThreadAllocatedBytes(Thread.currentThread().getId());
        for (int k = 0; k < 20; k++) {
            dearCalls(x);
        }
        long made = threads.getThreadAllocatedBytes(Thread.currentThread().getId()) - before;
        hold(made < 4096, "calls make nothing, but " + made + " bytes");
    }

    private static void dearCalls(TentMiddle x) {
        x.tent(0);
        x.hour();
        x.keep(0);
        x.on(0);
        x.undo(0);
        x.best(0);
        x.fair(1);
        x.thin(2);
        x.turning();
        x.warm();
        x.nights(3, 3);
        x.nth(17, 4);
        x.lie(4);
        x.whose(4);
        x.kinds(2, 9);
        x.good(1);
        x.odds(0, 0, 5);
        x.lots(77);
        x.row(5, 40);
        x.text(1, 60);
        x.digest();
    }
}
