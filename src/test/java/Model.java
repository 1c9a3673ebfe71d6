import java.math.BigInteger;
import java.util.ArrayList;
import java.util.Arrays;
import java.util.Collections;
import java.util.List;
import java.util.TreeMap;
import java.util.regex.Matcher;
import java.util.regex.Pattern;

/**
 * The document once more, written for plainness alone: whole copies, all orders, all subsets, and a pattern in place
 * of a parser. ModelTest asks it and TentMiddle the same questions.
 */
public final class Model {
    static final int BAD = -1, FULL = -2, FINDING = -3, STATE = -4, NONE = -9;
    private static final String LETTERS = "sndhtk";
    private static final Pattern TENT = Pattern.compile(" *c[0-9]{8}(?: *[sndhtk][0-5][0-9]){1,5} *");

    private static final class One {
        int kind, given, bag, place, slept, rim;

        boolean is(int k) {
            return kind == k || kind == 4 && k == 1 || kind == 5 && k == 2;
        }

        int gives() {
            return given * (kind == 3 ? 2 : 1);
        }

        One twin() {
            One o = new One();
            o.kind = kind;
            o.given = given;
            o.bag = bag;
            o.place = place;
            o.slept = slept;
            o.rim = rim;
            return o;
        }
    }

    private static final class State {
        List<One> ones = new ArrayList<>();
        int[] cold = new int[8];
        boolean open;
        int bottle, turns, hour, night;
        List<State> past = new ArrayList<>();

        State twin() {
            State s = new State();
            for (One o : ones) {
                s.ones.add(o.twin());
            }
            s.cold = cold.clone();
            s.open = open;
            s.bottle = bottle;
            s.turns = turns;
            s.hour = hour;
            s.night = night;
            s.past.addAll(past);
            return s;
        }

        boolean rim(One o) {
            return o.place == 0 || o.place == ones.size() - 1;
        }

        int feels(One o, int h) {
            int f = o.bag;
            for (One other : ones) {
                if (Math.abs(other.place - o.place) == 1) {
                    f += other.gives();
                }
            }
            int bottleAt = bottle;
            for (int k = 0; k < h; k++) {
                bottleAt = bottleAt == ones.size() - 1 ? 0 : bottleAt + 1;
            }
            if (o.place == bottleAt) {
                f += 3;
            }
            f -= cold[h];
            if (rim(o)) {
                f -= 2;
            }
            if (open) {
                f -= 2;
            } else if (rim(o)) {
                f -= h / 2;
            }
            return f;
        }

        boolean isNear(One snorer, One o) {
            int off = Math.abs(snorer.place - o.place);
            return off == 1 && snorer.is(1) || off == 2 && snorer.is(4);
        }

        boolean hears(One o) {
            boolean any = false;
            for (One other : ones) {
                any |= isNear(other, o);
            }
            return any && !o.is(2);
        }

        boolean sore(int h) {
            int last = 0;
            for (int k = 0; k <= h; k++) {
                if ((turns & 1 << k) != 0) {
                    last = k;
                }
            }
            return h - last >= 3;
        }

        int why(One o, int h) {
            int w = 0;
            if (feels(o, h) < 0) {
                w += 1;
            }
            if (hears(o)) {
                w += 2;
            }
            if (sore(h)) {
                w += 4;
            }
            if ((turns & 1 << h) != 0 && !o.is(5)) {
                w += 8;
            }
            return w;
        }

        int slept(One o) {
            int sum = 0;
            for (int h = 0; h < 8; h++) {
                if (why(o, h) == 0) {
                    sum++;
                }
            }
            return sum;
        }

        int worth() {
            return ones.stream().mapToInt(this::slept).sum();
        }

        int least() {
            return ones.stream().mapToInt(this::slept).min().orElse(0);
        }

        State lying(int[] order) {
            State s = twin();
            for (int p = 0; p < order.length; p++) {
                s.ones.get(order[p]).place = p;
            }
            return s;
        }

        One at(int place) {
            for (One o : ones) {
                if (o.place == place) {
                    return o;
                }
            }
            throw new IllegalStateException();
        }
    }

    private State tent = new State();
    private final TreeMap<Integer, State> kept = new TreeMap<>();
    private final int[][] rows = new int[6][];
    private final byte[][] texts = new byte[4][];
    private final int[] findings = new int[6];
    private int finding, asked;
    private BigInteger upper = BigInteger.ZERO, lower = BigInteger.ONE;

    private int find(int f) {
        finding = f;
        findings[f]++;
        return FINDING;
    }

    private int n() {
        return tent.ones.size();
    }

    private static boolean in(int v, int from, int to) {
        return v >= from && v <= to;
    }

    private boolean one(int i) {
        return in(i, 0, n() - 1);
    }

    public int row(int r, int n) {
        if (!in(r, 0, 5) || n > 40) {
            return BAD;
        }
        if (n < 0) {
            return find(5);
        }
        rows[r] = new int[n];
        return n;
    }

    public int lay(int r, int i, int v) {
        int a = at(r, i);
        if (a == 1) {
            rows[r][i] = v;
        }
        return a;
    }

    public int at(int r, int i) {
        if (!in(r, 0, 5)) {
            return BAD;
        }
        if (rows[r] == null) {
            return find(1);
        }
        if (!in(i, 0, rows[r].length - 1)) {
            return find(2);
        }
        asked = rows[r][i];
        return 1;
    }

    public int tear(int r) {
        if (!in(r, 0, 5)) {
            return BAD;
        }
        if (rows[r] == null) {
            return find(1);
        }
        rows[r] = null;
        return 1;
    }

    public int copy(int r, int i, int to, int j, int n) {
        if (!in(r, 0, 5) || !in(to, 0, 5)) {
            return BAD;
        }
        if (n < 0) {
            return find(5);
        }
        if (rows[r] == null || rows[to] == null) {
            return find(1);
        }
        if (i < 0 || j < 0 || (long) i + n > rows[r].length || (long) j + n > rows[to].length) {
            return find(2);
        }
        int[] taken = Arrays.copyOfRange(rows[r], i, i + n);
        for (int k = 0; k < n; k++) {
            rows[to][j + k] = taken[k];
        }
        return 1;
    }

    public int mean(int r) {
        if (!in(r, 0, 5)) {
            return BAD;
        }
        if (rows[r] == null) {
            return find(1);
        }
        if (rows[r].length == 0) {
            return find(4);
        }
        BigInteger sum = BigInteger.ZERO;
        for (int v : rows[r]) {
            sum = sum.add(BigInteger.valueOf(v));
        }
        asked = sum.divide(BigInteger.valueOf(rows[r].length)).intValueExact();
        return 1;
    }

    public int text(int t, int n) {
        if (!in(t, 0, 3) || n > 60) {
            return BAD;
        }
        if (n < 0) {
            return find(5);
        }
        texts[t] = new byte[n];
        Arrays.fill(texts[t], (byte) ' ');
        return n;
    }

    public int put(int t, int i, int v) {
        if (!in(t, 0, 3)) {
            return BAD;
        }
        if (texts[t] == null) {
            return find(1);
        }
        if (!in(i, 0, texts[t].length - 1)) {
            return find(2);
        }
        int was = texts[t][i];
        texts[t][i] = (byte) v;
        return was + 1000;
    }

    private String written(int t) {
        StringBuilder s = new StringBuilder();
        for (byte b : texts[t]) {
            s.append((char) (b & 255));
        }
        return s.toString();
    }

    public int fault(int t) {
        if (!in(t, 0, 3)) {
            return BAD;
        }
        if (texts[t] == null) {
            return find(1);
        }
        String s = written(t);
        if (TENT.matcher(s).matches()) {
            return NONE;
        }
        int fault = 0;
        for (int size = 0; size <= s.length(); size++) {
            Matcher m = TENT.matcher(s.substring(0, size));
            if (m.matches() || m.hitEnd()) {
                fault = size;
            }
        }
        return fault;
    }

    public int tent(int t) {
        int fault = fault(t);
        if (fault == BAD || fault == FINDING) {
            return fault;
        }
        if (fault != NONE) {
            return STATE;
        }
        String s = written(t).replace(" ", "");
        tent = new State();
        kept.clear();
        for (int h = 0; h < 8; h++) {
            tent.cold[h] = s.charAt(1 + h) - '0';
        }
        for (int k = 9; k < s.length(); k += 3) {
            One o = new One();
            o.kind = LETTERS.indexOf(s.charAt(k));
            o.given = s.charAt(k + 1) - '0';
            o.bag = s.charAt(k + 2) - '0';
            o.place = n();
            tent.ones.add(o);
        }
        return n();
    }

    private int trait(One o, int what) {
        return new int[] {o.kind, o.gives(), o.bag, o.place, o.slept, o.rim}[what];
    }

    public int sleeper(int i, int what) {
        if (!one(i) || !in(what, 0, 5)) {
            return BAD;
        }
        asked = trait(tent.ones.get(i), what);
        return 1;
    }

    public int mark(int i, int kind) {
        if (!one(i) || !in(kind, 1, 5)) {
            return BAD;
        }
        One o = tent.ones.get(i);
        if (!o.is(kind)) {
            return find(3);
        }
        int sum = 0;
        if (kind == 5) {
            for (int h = 0; h < 8; h++) {
                if ((tent.turns & 1 << h) != 0 && (tent.why(o, h) & 8) == 0) {
                    sum++;
                }
            }
            return sum;
        }
        for (One other : tent.ones) {
            if (kind == 1 && tent.isNear(o, other) && !other.is(2)) {
                sum++;
            }
            if (kind == 2 && tent.isNear(other, o)) {
                sum++;
            }
            if (kind == 3 && Math.abs(o.place - other.place) == 1) {
                sum += o.gives();
            }
            if (kind == 4 && other.is(1)) {
                sum++;
            }
        }
        return sum;
    }

    public int vent(int v) {
        if (!in(v, 0, 1)) {
            return BAD;
        }
        if (n() == 0) {
            return STATE;
        }
        int was = tent.open ? 1 : 0;
        tent.open = v == 1;
        return was;
    }

    public int bottle(int place) {
        if (!in(place, 0, n() - 1)) {
            return BAD;
        }
        int was = tent.bottle;
        tent.bottle = place;
        return was;
    }

    public int turns(int set) {
        if (!in(set, 0, 255)) {
            return BAD;
        }
        if (n() == 0) {
            return STATE;
        }
        int was = tent.turns;
        tent.turns = set;
        return was;
    }

    public int change(int i, int j) {
        if (!one(i) || !one(j)) {
            return BAD;
        }
        One a = tent.ones.get(i);
        One b = tent.ones.get(j);
        int was = a.place;
        a.place = b.place;
        b.place = was;
        return a.place;
    }

    public int bags(int i, int j) {
        if (!one(i) || !one(j)) {
            return BAD;
        }
        One a = tent.ones.get(i);
        One b = tent.ones.get(j);
        int was = a.bag;
        a.bag = b.bag;
        b.bag = was;
        return a.bag;
    }

    public int lie(int r) {
        if (!in(r, 0, 5)) {
            return BAD;
        }
        if (n() == 0) {
            return STATE;
        }
        if (rows[r] == null) {
            return find(1);
        }
        if (rows[r].length != n()) {
            return find(5);
        }
        int[] sorted = rows[r].clone();
        Arrays.sort(sorted);
        for (int k = 0; k < n(); k++) {
            if (sorted[k] != k) {
                return find(3);
            }
        }
        tent = tent.lying(rows[r]);
        return 1;
    }

    public int hour() {
        if (n() == 0 || tent.hour == 8) {
            return STATE;
        }
        if (tent.past.size() == 40) {
            return FULL;
        }
        State ahead = tent.twin();
        int set = 0;
        for (int i = 0; i < n(); i++) {
            One o = tent.ones.get(i);
            if (ahead.why(o, tent.hour) == 0) {
                set |= 1 << i;
                o.slept++;
            }
            if (tent.rim(o)) {
                o.rim++;
            }
        }
        tent.hour++;
        tent.past.add(ahead);
        return set;
    }

    public int night() {
        if (n() == 0) {
            return STATE;
        }
        if (tent.night == 9) {
            return FULL;
        }
        tent.hour = 0;
        return ++tent.night;
    }

    public int undo(int n) {
        int went = tent.past.size();
        if (!in(n, 0, went)) {
            return BAD;
        }
        if (n < went) {
            tent = tent.past.get(n).twin();
        }
        return went - n;
    }

    public int now() {
        if (n() == 0) {
            return STATE;
        }
        asked = tent.night;
        return tent.hour;
    }

    public int keep(int k) {
        if (!in(k, 0, 2)) {
            return BAD;
        }
        if (n() == 0) {
            return STATE;
        }
        kept.put(k, tent.twin());
        return tent.past.size();
    }

    public int on(int k) {
        if (!in(k, 0, 2)) {
            return BAD;
        }
        if (!kept.containsKey(k)) {
            return find(1);
        }
        tent = kept.get(k).twin();
        return tent.past.size();
    }

    public int feels(int i, int hour) {
        if (!one(i) || !in(hour, 0, 7)) {
            return BAD;
        }
        asked = tent.feels(tent.ones.get(i), hour);
        return 1;
    }

    public int why(int i, int hour) {
        return one(i) && in(hour, 0, 7) ? tent.why(tent.ones.get(i), hour) : BAD;
    }

    public int sleeps(int hour) {
        if (!in(hour, 0, 7)) {
            return BAD;
        }
        int set = 0;
        asked = 0;
        for (int i = 0; i < n(); i++) {
            int why = tent.why(tent.ones.get(i), hour);
            set += why == 0 ? 1 << i : 0;
            asked += why % 2 == 1 ? 1 << i : 0;
        }
        return set;
    }

    public int slept(int i) {
        return one(i) ? tent.slept(tent.ones.get(i)) : BAD;
    }

    public int coldest() {
        if (n() == 0) {
            return STATE;
        }
        int least = Integer.MAX_VALUE;
        int who = 0;
        for (int i = 0; i < n(); i++) {
            for (int h = 0; h < 8; h++) {
                int f = tent.feels(tent.ones.get(i), h);
                if (f < least) {
                    least = f;
                    who = i;
                    asked = h;
                }
            }
        }
        return who;
    }

    public int good(int i) {
        if (!one(i)) {
            return BAD;
        }
        State without = tent.twin();
        One quiet = without.ones.get(i);
        quiet.given = 0;
        quiet.kind = quiet.is(1) ? 0 : quiet.kind;
        asked = 0;
        for (int k = 0; k < n(); k++) {
            if (k != i) {
                asked += tent.slept(tent.ones.get(k)) - without.slept(without.ones.get(k));
            }
        }
        return 1;
    }

    public int worth() {
        if (n() == 0) {
            return STATE;
        }
        asked = tent.least();
        return tent.worth();
    }

    private static List<int[]> orders(int n) {
        List<int[]> all = new ArrayList<>();
        grow(new ArrayList<>(), n, all);
        return all;
    }

    private static void grow(List<Integer> begun, int n, List<int[]> all) {
        if (begun.size() == n) {
            all.add(begun.stream().mapToInt(Integer::intValue).toArray());
        }
        for (int i = 0; i < n; i++) {
            if (!begun.contains(i)) {
                List<Integer> next = new ArrayList<>(begun);
                next.add(i);
                grow(next, n, all);
            }
        }
    }

    private int refuse(int r) {
        return !in(r, 0, 5) ? BAD : n() == 0 ? STATE : 0;
    }

    public int best(int r) {
        if (refuse(r) != 0) {
            return refuse(r);
        }
        int most = -1;
        for (int[] order : orders(n())) {
            int w = tent.lying(order).worth();
            if (w > most) {
                most = w;
                rows[r] = order;
            }
        }
        return most;
    }

    public int fair(int r) {
        if (refuse(r) != 0) {
            return refuse(r);
        }
        int most = -1;
        for (int[] order : orders(n())) {
            int w = tent.lying(order).least();
            if (w > most) {
                most = w;
                rows[r] = order;
            }
        }
        return most;
    }

    public int turning() {
        if (n() == 0) {
            return STATE;
        }
        State s = tent.twin();
        int most = -1;
        int first = 0;
        for (int set = 0; set < 256; set++) {
            s.turns = set;
            if (s.worth() > most) {
                most = s.worth();
                first = set;
            }
        }
        asked = most;
        return first;
    }

    public int warm() {
        if (n() == 0) {
            return STATE;
        }
        State s = tent.twin();
        int most = -1;
        int first = 0;
        for (int p = 0; p < n(); p++) {
            s.bottle = p;
            if (s.worth() > most) {
                most = s.worth();
                first = p;
            }
        }
        asked = most;
        return first;
    }

    public int thin(int r) {
        if (refuse(r) != 0) {
            return refuse(r);
        }
        int most = -1;
        for (int[] order : orders(n())) {
            State s = tent.twin();
            for (int i = 0; i < n(); i++) {
                s.ones.get(i).bag = tent.ones.get(order[i]).bag;
            }
            if (s.worth() > most) {
                most = s.worth();
                rows[r] = order;
            }
        }
        return most;
    }

    public int nights(int n, int r) {
        if (!in(n, 1, 3)) {
            return BAD;
        }
        if (refuse(r) != 0) {
            return refuse(r);
        }
        List<int[]> slept = new ArrayList<>();
        for (int[] order : orders(n())) {
            State s = tent.lying(order);
            slept.add(s.ones.stream().mapToInt(s::slept).toArray());
        }
        int[] none = new int[n()];
        int most = -1;
        for (int a = 0; a < slept.size(); a++) {
            for (int b = a; b < (n > 1 ? slept.size() : a + 1); b++) {
                for (int c = b; c < (n > 2 ? slept.size() : b + 1); c++) {
                    int least = least(slept.get(a), n > 1 ? slept.get(b) : none, n > 2 ? slept.get(c) : none);
                    if (least > most) {
                        most = least;
                        rows[r] = Arrays.copyOf(new int[] {a, b, c}, n);
                    }
                }
            }
        }
        return most;
    }

    private static int least(int[] a, int[] b, int[] c) {
        int least = Integer.MAX_VALUE;
        for (int i = 0; i < a.length; i++) {
            least = Math.min(least, a[i] + b[i] + c[i]);
        }
        return least;
    }

    public int nth(int k, int r) {
        if (k < 0 || !in(r, 0, 5)) {
            return BAD;
        }
        if (n() == 0) {
            return STATE;
        }
        List<int[]> all = orders(n());
        if (k >= all.size()) {
            return find(4);
        }
        rows[r] = all.get(k);
        return 1;
    }

    public int out(int i) {
        if (!one(i)) {
            return BAD;
        }
        int over = 0;
        asked = 0;
        for (int k = 0; k < n(); k++) {
            One o = tent.ones.get(k);
            if (o.place < tent.ones.get(i).place) {
                over++;
                asked += o.is(5) ? 0 : 1 << k;
            }
        }
        return over;
    }

    private int snoredLike(int kind, int[] row) {
        int set = 0;
        for (int i = 0; i < n(); i++) {
            One snorer = tent.ones.get(i).twin();
            snorer.kind = kind;
            boolean fits = true;
            for (int p = 0; p < n(); p++) {
                One o = tent.at(p);
                boolean heard = tent.isNear(snorer, o) && !o.is(2);
                fits &= row[p] == NONE || heard == (row[p] == 1);
            }
            set += fits ? 1 << i : 0;
        }
        return set;
    }

    public int whose(int r) {
        if (!in(r, 0, 5)) {
            return BAD;
        }
        if (n() == 0) {
            return STATE;
        }
        if (rows[r] == null) {
            return find(1);
        }
        if (rows[r].length != n()) {
            return find(5);
        }
        for (int v : rows[r]) {
            if (v != 0 && v != 1 && v != NONE) {
                return find(3);
            }
        }
        asked = snoredLike(4, rows[r]);
        return snoredLike(1, rows[r]);
    }

    public int kinds(int i, int v) {
        if (!one(i)) {
            return BAD;
        }
        int set = 0;
        for (int kind = 0; kind < 6; kind++) {
            State s = tent.twin();
            s.ones.get(i).kind = kind;
            set += s.worth() == v ? 1 << kind : 0;
        }
        return set;
    }

    public int odds(int i, int hour, int p) {
        if (!one(i) || !in(hour, 0, 7) || !in(p, 0, 12)) {
            return BAD;
        }
        One o = tent.ones.get(i);
        upper = BigInteger.ZERO;
        lower = BigInteger.valueOf(12).pow(n());
        for (int goers = 0; goers < 1 << n(); goers++) {
            boolean sleeps = tent.why(o, hour) == 0 && (goers & 1 << i) == 0;
            BigInteger weight = BigInteger.ONE;
            for (int k = 0; k < n(); k++) {
                boolean goes = (goers & 1 << k) != 0;
                weight = weight.multiply(BigInteger.valueOf(goes ? p : 12 - p));
                sleeps &= !(goes && tent.ones.get(k).place > o.place && !o.is(5));
            }
            upper = sleeps ? upper.add(weight) : upper;
        }
        BigInteger shared = upper.gcd(lower);
        upper = upper.divide(shared);
        lower = lower.divide(shared);
        return 1;
    }

    public int lots(int seed) {
        if (seed < 1 || seed == Integer.MAX_VALUE) {
            return BAD;
        }
        if (n() == 0) {
            return STATE;
        }
        BigInteger lot = BigInteger.valueOf(seed);
        List<Integer> left = new ArrayList<>();
        for (int i = 0; i < n(); i++) {
            left.add(i);
        }
        Collections.sort(left);
        for (int p = 0; p < n(); p++) {
            lot = lot.multiply(BigInteger.valueOf(48271)).mod(BigInteger.valueOf(2147483647));
            int which = lot.mod(BigInteger.valueOf(left.size())).intValueExact();
            tent.ones.get(left.remove(which)).place = p;
        }
        return tent.worth();
    }

    public int asked() {
        return asked;
    }

    public long upper() {
        return upper.longValueExact();
    }

    public long lower() {
        return lower.longValueExact();
    }

    public int count(int what) {
        if (!in(what, 0, 8)) {
            return BAD;
        }
        int snorers = (int) tent.ones.stream().filter(o -> o.is(1)).count();
        int rowsThere = (int) Arrays.stream(rows).filter(row -> row != null).count();
        int textsThere = (int) Arrays.stream(texts).filter(text -> text != null).count();
        return new int[] {n(), tent.past.size(), tent.night, tent.turns, tent.open ? 1 : 0, snorers, rowsThere,
            textsThere, kept.size()}[what];
    }

    public int finding() {
        return finding;
    }

    public int findings(int f) {
        return in(f, 1, 5) ? findings[f] : BAD;
    }

    public long digest() {
        List<Integer> all = new ArrayList<>();
        for (int what = 0; what <= 8; what++) {
            all.add(count(what));
        }
        all.add(tent.bottle);
        for (One o : tent.ones) {
            for (int what = 0; what <= 5; what++) {
                all.add(trait(o, what));
            }
        }
        for (int k = 0; k < 3; k++) {
            all.add(kept.containsKey(k) ? kept.get(k).past.size() : -1);
        }
        for (int[] row : rows) {
            all.add(row == null ? -1 : row.length);
            for (int v : row == null ? new int[0] : row) {
                all.add(v);
            }
        }
        for (byte[] text : texts) {
            all.add(text == null ? -1 : text.length);
            for (byte v : text == null ? new byte[0] : text) {
                all.add((int) v);
            }
        }
        long h = 17;
        for (int v : all) {
            h = 31 * h + v;
        }
        return h;
    }
}
