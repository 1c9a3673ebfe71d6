import java.lang.reflect.Method;
import java.util.ArrayList;
import java.util.Arrays;
import java.util.HashMap;
import java.util.List;
import java.util.Map;
import java.util.Random;

/** Many runs of chosen-by-lot calls, ordinary and wrong ones: TentMiddle must answer as the plain Model does. */
public final class ModelTest {
    private static final int RUNS = 700, CALLS = 512;
    /** Names and what their arguments are, as argument() reads the signs. */
    private static final String[] CALLS_WITH_ARGUMENTS = {
        "row r#", "lay rpv", "lay rpo", "lay rph", "at rp", "tear r", "copy rprpm", "mean r", "text t$", "put tqb", "fault t",
        "tent t", "sleeper iw", "mark ik", "mark ik", "vent x", "bottle i", "turns s", "change ii", "bags ii", "lie r", "hour ",
        "hour ", "hour ", "night ", "undo u", "now ", "keep k", "on k", "feels ih", "why ih", "sleeps h", "slept i",
        "coldest ", "good i", "worth ", "best r", "fair r", "turning ", "warm ", "thin r", "nights nr", "nth or",
        "out i", "whose r", "kinds iz", "odds ihc", "lots l", "asked ", "upper ", "lower ", "count w", "finding ",
        "findings k", "digest ",
    };
    private static final int[] EDGES = {
        Integer.MIN_VALUE, Integer.MAX_VALUE, -1, -9, 0, 1, 2, 3, 5, 6, 7, 8, 12, 13, 40, 41, 60, 61, 255, 256,
        Integer.MAX_VALUE - 1,
    };

    private static final Map<String, Method> real = new HashMap<>();
    private static final Map<String, Method> plain = new HashMap<>();

    private final Random random;
    private final TentMiddle tent = new TentMiddle();
    private final Model model = new Model();
    private final List<String> log = new ArrayList<>();
    private int sleepers;

    private ModelTest(long seed) {
        random = new Random(seed);
    }

    public static void main(String[] args) throws Exception {
        for (Method m : TentMiddle.class.getDeclaredMethods()) {
            if (java.lang.reflect.Modifier.isPublic(m.getModifiers())) {
                real.put(m.getName(), m);
                plain.put(m.getName(), Model.class.getMethod(m.getName(), m.getParameterTypes()));
            }
        }
        for (int seed = 0; seed < RUNS; seed++) {
            String wrong = new ModelTest(seed).run();
            if (wrong != null) {
                System.out.println("run " + seed + ": " + wrong);
                System.exit(1);
            }
        }
        System.out.println("all answers are as the model's");
    }

    private String run() throws Exception {
        for (int calls = 0; calls < CALLS; calls++) {
            String wrong = random.nextInt(60) == 0 || calls == 20 ? writeTent() : anyCall();
            if (wrong != null) {
                return wrong + "\n  " + String.join("\n  ", log);
            }
        }
        return null;
    }

    private String anyCall() throws Exception {
        String spec = CALLS_WITH_ARGUMENTS[random.nextInt(CALLS_WITH_ARGUMENTS.length)];
        String name = spec.substring(0, spec.indexOf(' '));
        String kinds = spec.substring(spec.indexOf(' ') + 1);
        if (name.equals("nights") && random.nextInt(10) != 0) {
            return null;
        }
        int[] arguments = new int[kinds.length()];
        for (int k = 0; k < arguments.length; k++) {
            arguments[k] = argument(kinds.charAt(k));
        }
        return call(name, arguments);
    }

    private int argument(char kind) {
        if (random.nextInt(30) == 0) {
            return EDGES[random.nextInt(EDGES.length)];
        }
        switch (kind) {
            case 'r': return random.nextInt(6);
            case '#': return random.nextInt(3) == 0 ? random.nextInt(41) : sleepers;
            case 'p': return random.nextInt(6);
            case 'v': return random.nextInt();
            case 'o': return random.nextInt(random.nextBoolean() ? 5 : 130);
            case 'm': return random.nextInt(4);
            case 't': return random.nextInt(4);
            case '$': return random.nextInt(61);
            case 'q': return random.nextInt(40);
            case 'b': return "c 0123456789sndhtk".charAt(random.nextInt(18)) + (random.nextInt(8) == 0 ? random.nextInt() : 0);
            case 'i': return random.nextInt(Math.max(1, sleepers));
            case 'w': return random.nextInt(9);
            case 'k': return random.nextInt(6);
            case 'x': return random.nextInt(2);
            case 's': return random.nextInt(256);
            case 'u': return Math.max(0, model.count(1) - random.nextInt(5));
            case 'h': return random.nextInt(9) == 0 ? TentMiddle.NONE : random.nextInt(8);
            case 'n': return 1 + random.nextInt(3);
            case 'z': return random.nextInt(4) == 0 ? random.nextInt(41) : model.count(0) == 0 ? 0 : worthByModel();
            case 'c': return random.nextInt(13);
            case 'l': return 1 + random.nextInt(Integer.MAX_VALUE - 1);
            default: throw new IllegalArgumentException("argument " + kind);
        }
    }

    private int worthByModel() {
        int sum = 0;
        for (int i = 0; i < model.count(0); i++) {
            sum += model.slept(i);
        }
        return sum;
    }

    /** A TENT's TEXT, mostly without a FAULT, and all that is to be put there. */
    private String writeTent() throws Exception {
        StringBuilder s = new StringBuilder(blanks());
        s.append('c');
        int coldest = 1 + random.nextInt(10);
        for (int h = 0; h < 8; h++) {
            s.append(random.nextInt(coldest));
        }
        int many = 1 + random.nextInt(random.nextInt(20) == 0 ? 6 : 5);
        for (int i = 0; i < many; i++) {
            s.append(blanks()).append("sndhtk".charAt(random.nextInt(6))).append(random.nextInt(6)).append(random.nextInt(10));
        }
        s.append(blanks());
        if (random.nextInt(8) == 0) {
            s.setCharAt(random.nextInt(s.length()), (char) (32 + random.nextInt(96)));
        }
        if (random.nextInt(12) == 0) {
            s.setLength(random.nextInt(s.length()));
        }
        int t = random.nextInt(4);
        String wrong = call("text", t, s.length());
        for (int i = 0; i < s.length() && wrong == null; i++) {
            wrong = s.charAt(i) == ' ' ? null : call("put", t, i, s.charAt(i));
        }
        wrong = wrong == null ? call("fault", t) : wrong;
        return wrong == null ? call("tent", t) : wrong;
    }

    private String blanks() {
        return " ".repeat(random.nextInt(3));
    }

    private String call(String name, int... arguments) throws Exception {
        Object[] boxed = Arrays.stream(arguments).boxed().toArray();
        log.add(name + Arrays.toString(arguments));
        Object got = real.get(name).invoke(tent, boxed);
        Object due = plain.get(name).invoke(model, boxed);
        sleepers = model.count(0);
        if (!got.equals(due)) {
            return "answered " + got + ", due is " + due;
        }
        if (tent.digest() != model.digest() || tent.asked() != model.asked() || tent.finding() != model.finding()
                || tent.upper() != model.upper() || tent.lower() != model.lower()) {
            return "digest, asked, finding or chances are not as due";
        }
        return null;
    }
}
