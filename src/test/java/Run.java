import java.lang.reflect.InvocationTargetException;
import java.lang.reflect.Method;
import java.lang.reflect.Modifier;
import java.util.ArrayList;
import java.util.Arrays;
import java.util.List;
import java.util.Map;
import java.util.TreeMap;

/**
 * Calls on a new object, by name. A Run can be made again on another new object: so an object with a call and one
 * without it can be compared in all that can be asked, and what is looked at leaves the Run itself alone.
 */
final class Run {
    static final int BAD = -1, FULL = -2, FINDING = -3, STATE = -4, SPENT = -6, NONE = -9;
    static final int NOTHING = 1, BEYOND = 2, UNLIKE = 3, NOUGHT = 4, SIZE = 5;
    static final int LEAST = Integer.MIN_VALUE, MOST = Integer.MAX_VALUE;
    static final Map<String, Method> CALLS = calls();

    private static final int MOST_CALLS = 512;
    private static final int TOLD = 0, PRESENT = 1, PAST = 2, KEPT = 3, PARTS = 6;

    private record Step(String name, int... arguments) {
        long on(TentMiddle x) {
            Method m = CALLS.get(name);
            Object[] boxed = Arrays.stream(arguments).boxed().toArray();
            try {
                return ((Number) m.invoke(x, boxed)).longValue();
            } catch (InvocationTargetException thrown) {
                Due.wrong(this + " threw " + thrown.getCause());
                return Long.MIN_VALUE;
            } catch (IllegalAccessException | IllegalArgumentException e) {
                throw new IllegalStateException(toString(), e);
            }
        }

        @Override
        public String toString() {
            String s = Arrays.toString(arguments);
            return name + "(" + s.substring(1, s.length() - 1) + ")";
        }
    }

    private final List<Step> steps = new ArrayList<>();
    private final TentMiddle object = new TentMiddle();
    private boolean mayGoOn;

    private static Map<String, Method> calls() {
        Map<String, Method> all = new TreeMap<>();
        for (Method m : TentMiddle.class.getDeclaredMethods()) {
            if (Modifier.isPublic(m.getModifiers())) {
                all.put(m.getName(), m);
            }
        }
        return all;
    }

    /** A new object and no call. */
    static Run fresh() {
        return new Run();
    }

    /** A TENT by TEXT 0. */
    static Run of(String tent) {
        return fresh().write(0, tent).then("tent", 0);
    }

    /** As many SLEEPERS alike, one item each. */
    static String alike(String cold, int many, String item) {
        return "c" + cold + (" " + item).repeat(many);
    }

    /**
     * A bit of all: five SLEEPERS of five KINDS, HOURS of two NIGHTS, all that can be set, TENT 1 kept, ROWS 0 to 2
     * (an ORDER, none, 40 ints) and TEXTS 0 to 2 (the TENT, none, 60 bytes) there, chances, asked() and FINDINGS told.
     */
    static Run rich() {
        Run x = of("c34567865 s24 n36 d15 h33 k27");
        x.then("turns", 36).then("vent", 1).then("bottle", 2).then("change", 0, 4).then("hour").then("bags", 1, 3);
        x.then("hour").then("keep", 1).then("hour").then("night").then("lots", 77).then("hour").then("turns", 72);
        x.fill(0, 4, 2, 0, 1, 3).then("row", 1, 0).then("row", 2, 40).then("lay", 2, 39, MOST).then("lay", 2, 0, -5);
        x.then("text", 1, 0).then("text", 2, 60).then("put", 2, 59, 200).then("odds", 4, 0, 5);
        x.answers(FINDING, "tear", 5).answers(FINDING, "at", 0, 5).answers(FINDING, "mean", 1);
        return x.then("at", 2, 0);
    }

    /** An object may be asked more often than the document says: what it answers then is free, but it must answer. */
    Run goOn() {
        mayGoOn = true;
        return this;
    }

    int size() {
        return steps.size();
    }

    long ask(String name, int... arguments) {
        Step step = new Step(name, arguments);
        steps.add(step);
        if (steps.size() > MOST_CALLS && !mayGoOn) {
            Due.wrong("the test asks more often than 512 times");
        }
        return step.on(object);
    }

    /** A call that is not to be refused; what it answers is not looked at. */
    Run then(String name, int... arguments) {
        long answer = ask(name, arguments);
        if (isRefusal(answer)) {
            Due.wrong(new Step(name, arguments) + " was refused by " + answer);
        }
        return this;
    }

    Run answers(long want, String name, int... arguments) {
        Due.equal(new Step(name, arguments).toString(), ask(name, arguments), want);
        return this;
    }

    /** A call that answers and tells more by asked(). */
    Run answersTelling(long want, int told, String name, int... arguments) {
        answers(want, name, arguments);
        Due.equal(new Step(name, arguments) + ", then asked()", ask("asked"), told);
        return this;
    }

    /** A call that answers 1 and tells by asked(). */
    Run tells(int told, String name, int... arguments) {
        return answersTelling(1, told, name, arguments);
    }

    Run chances(long upper, long lower, int i, int hour, int p) {
        String call = new Step("odds", i, hour, p).toString();
        answers(1, "odds", i, hour, p);
        Due.equal(call + ", then upper()", ask("upper"), upper);
        Due.equal(call + ", then lower()", ask("lower"), lower);
        return this;
    }

    Run fill(int r, int... values) {
        then("row", r, values.length);
        for (int i = 0; i < values.length; i++) {
            then("lay", r, i, values[i]);
        }
        return this;
    }

    Run write(int t, String s) {
        then("text", t, s.length());
        for (int i = 0; i < s.length(); i++) {
            if (s.charAt(i) != ' ') {
                then("put", t, i, s.charAt(i));
            }
        }
        return this;
    }

    Run hours(int many) {
        for (int k = 0; k < many; k++) {
            then("hour");
        }
        return this;
    }

    /** Looks at a ROW, which must have just these places. */
    Run holds(int r, int... values) {
        Run x = again();
        for (int i = 0; i < values.length; i++) {
            x.tells(values[i], "at", r, i);
        }
        x.answers(FINDING, "at", r, values.length).answers(BEYOND, "finding");
        return this;
    }

    /** Looks who lies where: SLEEPERS by PLACES. */
    Run lies(int... order) {
        Run x = again();
        x.answers(order.length, "count", 0);
        for (int p = 0; p < order.length; p++) {
            x.tells(p, "sleeper", order[p], 3);
        }
        return this;
    }

    /** Refused without a FINDING, and nothing else changes. */
    Run refuses(int code, String name, int... arguments) {
        return refused(code, 0, new Step(name, arguments));
    }

    /** Refused by a FINDING, and nothing else changes. */
    Run finds(int finding, String name, int... arguments) {
        return refused(FINDING, finding, new Step(name, arguments));
    }

    /** If a call is refused, by whatever it is, nothing else changes. */
    boolean changesNothingIfRefused(String name, int... arguments) {
        Run with = again();
        long answer = with.ask(name, arguments);
        if (isRefusal(answer)) {
            refused((int) answer, answer == FINDING ? (int) with.ask("finding") : 0, new Step(name, arguments));
        }
        return isRefusal(answer);
    }

    private static boolean isRefusal(long answer) {
        return answer == BAD || answer == FULL || answer == FINDING || answer == STATE || answer == SPENT;
    }

    private Run refused(int code, int finding, Step step) {
        Run with = again();
        Due.equal(step.toString(), with.ask(step.name, step.arguments), code);
        Run found = with.again();
        Run was = again();
        long before = was.ask("finding");
        Due.equal(step + ", then finding()", found.ask("finding"), code == FINDING ? finding : before);
        for (int f = 1; f <= 5; f++) {
            long more = code == FINDING && f == finding ? 1 : 0;
            Due.equal(step + ", then findings(" + f + ")", found.ask("findings", f), was.ask("findings", f) + more);
        }
        with.isLike(step + " that is refused", this, "finding");
        return this;
    }

    /** A call that changes nothing but what those calls tell that are named. */
    Run changesOnly(String told, String name, int... arguments) {
        Run with = again();
        with.then(name, arguments);
        with.isLike(new Step(name, arguments).toString(), this, told);
        return this;
    }

    /** Looks whether another Run came to the same, but for what those calls tell that are named. */
    Run isLike(String why, Run other, String but) {
        for (int part = 0; part < PARTS; part++) {
            List<String> here = again().look(part, but);
            List<String> there = other.again().look(part, but);
            for (int k = 0; k < Math.max(here.size(), there.size()); k++) {
                String a = k < here.size() ? here.get(k) : "no more";
                String b = k < there.size() ? there.get(k) : "no more";
                if (!a.equals(b)) {
                    Due.wrong(why + " leaves " + a + ", due is " + b);
                    return this;
                }
            }
            Due.holds(why, true);
        }
        return this;
    }

    /** The same calls on another new object. */
    Run again() {
        Run x = new Run();
        x.mayGoOn = mayGoOn;
        for (Step step : steps) {
            x.ask(step.name, step.arguments);
        }
        return x;
    }

    private List<String> look(int part, String but) {
        List<String> seen = new ArrayList<>();
        if (part == TOLD) {
            for (String name : new String[] {"asked", "upper", "lower", "digest"}) {
                if (!Arrays.asList(but.split(" ")).contains(name)) {
                    see(seen, name);
                }
            }
            if (!Arrays.asList(but.split(" ")).contains("finding")) {
                see(seen, "finding");
                for (int f = 1; f <= 5; f++) {
                    see(seen, "findings", f);
                }
            }
            seeRows(seen);
        } else if (part == PRESENT) {
            seePresent(seen);
        } else if (part == PAST) {
            seePast(seen);
        } else if (see(seen, "on", part - KEPT) >= 0) {
            seePresent(seen);
            seePast(seen);
        }
        return seen;
    }

    private long see(List<String> seen, String name, int... arguments) {
        long answer = ask(name, arguments);
        seen.add(new Step(name, arguments) + " = " + answer);
        return answer;
    }

    private void seeTold(List<String> seen, String name, int... arguments) {
        if (see(seen, name, arguments) >= 0) {
            see(seen, "asked");
        }
    }

    /** Digests could be alike by chance, so some places of the ROWS are looked at, too. */
    private void seeRows(List<String> seen) {
        for (int what = 0; what <= 8; what++) {
            see(seen, "count", what);
        }
        for (int r = 0; r < 6; r++) {
            for (int i = 0; ask("at", r, i) == 1 && i < 5; i++) {
                see(seen, "asked");
            }
        }
    }

    private void seePresent(List<String> seen) {
        see(seen, "digest");
        seeTold(seen, "now");
        seeTold(seen, "coldest");
        seeTold(seen, "turning");
        seeTold(seen, "warm");
        seeTold(seen, "worth");
        for (int i = 0; i < ask("count", 0); i++) {
            for (int h = 0; h < 8; h++) {
                seeTold(seen, "feels", i, h);
                see(seen, "why", i, h);
            }
            for (int kind = 1; kind <= 5; kind++) {
                see(seen, "mark", i, kind);
            }
        }
    }

    private void seePast(List<String> seen) {
        for (int n = (int) ask("count", 1) - 1; n >= 0; n--) {
            see(seen, "undo", n);
            see(seen, "digest");
            seeTold(seen, "now");
        }
    }
}
