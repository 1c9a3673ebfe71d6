import java.util.Arrays;

/** Who sleeps in the middle of a tent for fewer: the class that DOC.md promises, call by call. */
public final class TentMiddle {
    public static final int BAD = -1, FULL = -2, FINDING = -3, STATE = -4, SPENT = -6, NONE = -9;

    private static final int NOTHING = 1, BEYOND = 2, UNLIKE = 3, NOUGHT = 4, SIZE = 5;
    private static final int ALLOWED = 0;
    private static final int ROWS = 6, ROW_PLACES = 40, TEXTS = 4, TEXT_BYTES = 60, KEPT = 3;
    private static final int SLEEPERS = 5, HOURS = 8, HOURS_IN_ALL = 40, LAST_NIGHT = 9;
    private static final int TURN_SETS = 256, ORDERS = 120, MOST_NIGHTS = 3;
    private static final int TRAITS = 6, COUNTS = 9, BYTE_SHIFT = 1000, CHANCE_PARTS = 12;
    private static final int LOT_FACTOR = 48271, LOT_MODULUS = 2147483647;

    private static final int SLEEPER = 0, SNORER = 1, DEAF = 2, STOVE = 3, THUNDER = 4, STONE = 5, KINDS = 6;
    private static final int COLD = 1, HEARS = 2, SORE = 4, WOKEN = 8;
    private static final int FOR_WORTH = 0, FOR_LEAST = 1, FOR_BAGS = 2;

    private final Shelf rows = new Shelf(ROWS, ROW_PLACES);
    private final Shelf texts = new Shelf(TEXTS, TEXT_BYTES);
    private final Camp camp = new Camp(HOURS_IN_ALL);
    private final Camp[] kept = new Camp[KEPT];
    /** What is tried out, so that the TENT itself stays as it is. */
    private final Camp trial = new Camp(0);
    private final Reader reader = new Reader();
    private final Orders orders = new Orders();
    private final Plan plan = new Plan();
    private final int[] findingCounts = new int[SIZE + 1];
    private int lastFinding;
    private int told;
    private long chanceUpper;
    private long chanceLower = 1;

    public TentMiddle() {
        for (int k = 0; k < KEPT; k++) {
            kept[k] = new Camp(HOURS_IN_ALL);
        }
    }

    // ---- 1 rows, texts, tents

    public int row(int r, int n) {
        return makeIn(rows, r, n, 0);
    }

    public int lay(int r, int i, int v) {
        int refusal = refusePlace(rows, r, i);
        if (refusal != ALLOWED) {
            return refusal;
        }
        told = rows.get(r, i);
        rows.set(r, i, v);
        return 1;
    }

    public int at(int r, int i) {
        int refusal = refusePlace(rows, r, i);
        if (refusal != ALLOWED) {
            return refusal;
        }
        told = rows.get(r, i);
        return 1;
    }

    public int tear(int r) {
        int refusal = refuseMissing(rows, r);
        if (refusal != ALLOWED) {
            return refusal;
        }
        rows.remove(r);
        return 1;
    }

    public int copy(int r, int i, int to, int j, int n) {
        if (!rows.isNumber(r) || !rows.isNumber(to)) {
            return BAD;
        }
        if (n < 0) {
            return found(SIZE);
        }
        if (!rows.isThere(r) || !rows.isThere(to)) {
            return found(NOTHING);
        }
        if (!rows.hasSpan(r, i, n) || !rows.hasSpan(to, j, n)) {
            return found(BEYOND);
        }
        rows.move(r, i, to, j, n);
        return 1;
    }

    public int mean(int r) {
        int refusal = refuseMissing(rows, r);
        if (refusal != ALLOWED) {
            return refusal;
        }
        int size = rows.sizeOf(r);
        if (size <= 0) {
            return found(NOUGHT);
        }
        told = (int) (rows.sum(r) / size);
        return 1;
    }

    public int text(int t, int n) {
        return makeIn(texts, t, n, Reader.BLANK);
    }

    public int put(int t, int i, int v) {
        int refusal = refusePlace(texts, t, i);
        if (refusal != ALLOWED) {
            return refusal;
        }
        int was = texts.get(t, i);
        texts.set(t, i, (byte) v);
        return was + BYTE_SHIFT;
    }

    public int fault(int t) {
        int refusal = refuseMissing(texts, t);
        return refusal != ALLOWED ? refusal : reader.read(texts, t);
    }

    public int tent(int t) {
        int refusal = refuseMissing(texts, t);
        if (refusal != ALLOWED) {
            return refusal;
        }
        if (reader.read(texts, t) != NONE) {
            return STATE;
        }
        camp.takeWhole(reader.camp);
        for (int k = 0; k < KEPT; k++) {
            kept[k].begin();
        }
        return camp.size;
    }

    public int sleeper(int i, int what) {
        if (!camp.isSleeper(i) || what < 0 || what >= TRAITS) {
            return BAD;
        }
        told = camp.trait(i, what);
        return 1;
    }

    public int mark(int i, int kind) {
        if (!camp.isSleeper(i) || kind <= SLEEPER || kind >= KINDS) {
            return BAD;
        }
        if (!Camp.isOf(camp.kind[i], kind)) {
            return found(UNLIKE);
        }
        switch (kind) {
            case SNORER:
                return camp.hearersOf(i);
            case DEAF:
                return camp.snorersNear(i);
            case STOVE:
                return camp.givenAway(i);
            case THUNDER:
                return camp.snorers();
            default:
                return Integer.bitCount(camp.turns);
        }
    }

    public int vent(int v) {
        if (v != 0 && v != 1) {
            return BAD;
        }
        if (camp.size == 0) {
            return STATE;
        }
        int was = camp.vent;
        camp.vent = v;
        return was;
    }

    public int bottle(int place) {
        // there are as many PLACES as SLEEPERS
        if (!camp.isSleeper(place)) {
            return BAD;
        }
        int was = camp.bottle;
        camp.bottle = place;
        return was;
    }

    public int turns(int set) {
        if (set < 0 || set >= TURN_SETS) {
            return BAD;
        }
        if (camp.size == 0) {
            return STATE;
        }
        int was = camp.turns;
        camp.turns = set;
        return was;
    }

    public int change(int i, int j) {
        if (!camp.isSleeper(i) || !camp.isSleeper(j)) {
            return BAD;
        }
        swap(camp.place, i, j);
        camp.fillPlaces();
        return camp.place[i];
    }

    public int bags(int i, int j) {
        if (!camp.isSleeper(i) || !camp.isSleeper(j)) {
            return BAD;
        }
        swap(camp.bag, i, j);
        return camp.bag[i];
    }

    public int lie(int r) {
        int refusal = refuseRowForPlaces(r);
        if (refusal != ALLOWED) {
            return refusal;
        }
        if (!holdsOrder(r)) {
            return found(UNLIKE);
        }
        orders.readFrom(rows, r, camp.size);
        camp.layBy(orders.order);
        return 1;
    }

    // ---- 2 hours

    public int hour() {
        if (camp.size == 0 || camp.hour >= HOURS) {
            return STATE;
        }
        if (camp.hours >= HOURS_IN_ALL) {
            return FULL;
        }
        return camp.passHour();
    }

    public int night() {
        if (camp.size == 0) {
            return STATE;
        }
        if (camp.night >= LAST_NIGHT) {
            return FULL;
        }
        camp.night++;
        camp.hour = 0;
        return camp.night;
    }

    public int undo(int n) {
        if (n < 0 || n > camp.hours) {
            return BAD;
        }
        int undone = camp.hours - n;
        if (undone > 0) {
            camp.recall(n);
        }
        return undone;
    }

    public int now() {
        if (camp.size == 0) {
            return STATE;
        }
        told = camp.night;
        return camp.hour;
    }

    public int keep(int k) {
        if (k < 0 || k >= KEPT) {
            return BAD;
        }
        if (camp.size == 0) {
            return STATE;
        }
        kept[k].takeWhole(camp);
        return camp.hours;
    }

    public int on(int k) {
        if (k < 0 || k >= KEPT) {
            return BAD;
        }
        if (!isKept(k)) {
            return found(NOTHING);
        }
        camp.takeWhole(kept[k]);
        return camp.hours;
    }

    // ---- 3 how one feels

    public int feels(int i, int hour) {
        if (!camp.isSleeper(i) || !isHour(hour)) {
            return BAD;
        }
        told = camp.feeling(i, hour);
        return 1;
    }

    public int why(int i, int hour) {
        return camp.isSleeper(i) && isHour(hour) ? camp.reasons(i, hour) : BAD;
    }

    public int sleeps(int hour) {
        if (!isHour(hour)) {
            return BAD;
        }
        told = camp.coldOnes(hour);
        return camp.sleepingOnes(hour);
    }

    public int slept(int i) {
        return camp.isSleeper(i) ? camp.hoursSlept(i) : BAD;
    }

    public int coldest() {
        if (camp.size == 0) {
            return STATE;
        }
        int who = 0;
        int when = 0;
        for (int i = 0; i < camp.size; i++) {
            for (int h = 0; h < HOURS; h++) {
                if (camp.feeling(i, h) < camp.feeling(who, when)) {
                    who = i;
                    when = h;
                }
            }
        }
        told = when;
        return who;
    }

    public int good(int i) {
        if (!camp.isSleeper(i)) {
            return BAD;
        }
        trial.takePresent(camp);
        trial.kind[i] = SLEEPER;
        trial.gives[i] = 0;
        told = camp.sleptByOthers(i) - trial.sleptByOthers(i);
        return 1;
    }

    public int worth() {
        if (camp.size == 0) {
            return STATE;
        }
        told = camp.leastSlept();
        return camp.sleptByAll();
    }

    // ---- 4 who lies where

    public int best(int r) {
        return seekOrder(r, FOR_WORTH);
    }

    public int fair(int r) {
        return seekOrder(r, FOR_LEAST);
    }

    public int turning() {
        if (camp.size == 0) {
            return STATE;
        }
        trial.takePresent(camp);
        trial.noteCalm();
        int most = -1;
        int first = 0;
        for (int set = 0; set < TURN_SETS; set++) {
            trial.turns = set;
            int sum = trial.sleptOfCalm();
            if (sum > most) {
                most = sum;
                first = set;
            }
        }
        told = most;
        return first;
    }

    public int warm() {
        if (camp.size == 0) {
            return STATE;
        }
        trial.takePresent(camp);
        int most = -1;
        int first = 0;
        for (int p = 0; p < camp.size; p++) {
            trial.bottle = p;
            int sum = trial.sleptByAll();
            if (sum > most) {
                most = sum;
                first = p;
            }
        }
        told = most;
        return first;
    }

    public int thin(int r) {
        return seekOrder(r, FOR_BAGS);
    }

    public int nights(int n, int r) {
        if (n < 1 || n > MOST_NIGHTS) {
            return BAD;
        }
        int refusal = refuseRowToFill(r);
        if (refusal != ALLOWED) {
            return refusal;
        }
        trial.takePresent(camp);
        plan.begin(camp.size);
        orders.begin(camp.size);
        for (int k = 0; k < ORDERS; k++) {
            trial.layBy(orders.order);
            plan.offer(k, trial);
            if (!orders.advance()) {
                break;
            }
        }
        int least = plan.choose(n);
        plan.writeTo(rows, r, n);
        return least;
    }

    public int nth(int k, int r) {
        if (k < 0) {
            return BAD;
        }
        int refusal = refuseRowToFill(r);
        if (refusal != ALLOWED) {
            return refusal;
        }
        if (k >= Orders.howMany(camp.size)) {
            return found(NOUGHT);
        }
        orders.goTo(camp.size, k);
        orders.writeTo(rows, r);
        return 1;
    }

    // ---- 5 who goes out, whose snore

    public int out(int i) {
        if (!camp.isSleeper(i)) {
            return BAD;
        }
        int disturbed = 0;
        for (int p = 0; p < camp.place[i]; p++) {
            int over = camp.who[p];
            if (camp.kind[over] != STONE) {
                disturbed |= 1 << over;
            }
        }
        told = disturbed;
        return camp.place[i];
    }

    public int whose(int r) {
        int refusal = refuseRowForPlaces(r);
        if (refusal != ALLOWED) {
            return refusal;
        }
        for (int p = 0; p < camp.size; p++) {
            int heard = rows.get(r, p);
            if (heard != 0 && heard != 1 && heard != NONE) {
                return found(UNLIKE);
            }
        }
        told = suspects(r, Camp.reach(THUNDER));
        return suspects(r, Camp.reach(SNORER));
    }

    public int kinds(int i, int v) {
        if (!camp.isSleeper(i)) {
            return BAD;
        }
        trial.takePresent(camp);
        int possible = 0;
        for (int k = 0; k < KINDS; k++) {
            trial.kind[i] = k;
            if (trial.sleptByAll() == v) {
                possible |= 1 << k;
            }
        }
        return possible;
    }

    // ---- 6 chances, lots

    public int odds(int i, int hour, int p) {
        if (!camp.isSleeper(i) || !isHour(hour) || p < 0 || p > CHANCE_PARTS) {
            return BAD;
        }
        if (camp.reasons(i, hour) != 0) {
            tellPower(0, 1);
        } else {
            tellPower(CHANCE_PARTS - p, camp.mustStayIn(i));
        }
        return 1;
    }

    public int lots(int seed) {
        if (seed < 1 || seed >= LOT_MODULUS) {
            return BAD;
        }
        if (camp.size == 0) {
            return STATE;
        }
        orders.draw(camp.size, seed);
        camp.layBy(orders.order);
        return camp.sleptByAll();
    }

    // ---- 7 what is told

    public int asked() {
        return told;
    }

    public long upper() {
        return chanceUpper;
    }

    public long lower() {
        return chanceLower;
    }

    public int count(int what) {
        switch (what) {
            case 0:
                return camp.size;
            case 1:
                return camp.hours;
            case 2:
                return camp.night;
            case 3:
                return camp.turns;
            case 4:
                return camp.vent;
            case 5:
                return camp.snorers();
            case 6:
                return rows.howManyThere();
            case 7:
                return texts.howManyThere();
            case 8:
                return keptTents();
            default:
                return BAD;
        }
    }

    public int finding() {
        return lastFinding;
    }

    public int findings(int f) {
        return f < NOTHING || f > SIZE ? BAD : findingCounts[f];
    }

    public long digest() {
        long h = 17;
        for (int what = 0; what < COUNTS; what++) {
            h = 31 * h + count(what);
        }
        h = 31 * h + camp.bottle;
        for (int i = 0; i < camp.size; i++) {
            for (int what = 0; what < TRAITS; what++) {
                h = 31 * h + camp.trait(i, what);
            }
        }
        for (int k = 0; k < KEPT; k++) {
            h = 31 * h + (isKept(k) ? kept[k].hours : -1);
        }
        return texts.digestOn(rows.digestOn(h));
    }

    // ---- what the calls share

    private int found(int f) {
        lastFinding = f;
        findingCounts[f]++;
        return FINDING;
    }

    private int makeIn(Shelf shelf, int r, int n, int v) {
        if (!shelf.isNumber(r) || n > shelf.limit) {
            return BAD;
        }
        if (n < 0) {
            return found(SIZE);
        }
        shelf.make(r, n, v);
        return n;
    }

    private int refuseMissing(Shelf shelf, int r) {
        if (!shelf.isNumber(r)) {
            return BAD;
        }
        return shelf.isThere(r) ? ALLOWED : found(NOTHING);
    }

    private int refusePlace(Shelf shelf, int r, int i) {
        int refusal = refuseMissing(shelf, r);
        if (refusal != ALLOWED) {
            return refusal;
        }
        return shelf.hasPlace(r, i) ? ALLOWED : found(BEYOND);
    }

    private int refuseRowToFill(int r) {
        if (!rows.isNumber(r)) {
            return BAD;
        }
        return camp.size == 0 ? STATE : ALLOWED;
    }

    private int refuseRowForPlaces(int r) {
        int refusal = refuseRowToFill(r);
        if (refusal != ALLOWED) {
            return refusal;
        }
        if (!rows.isThere(r)) {
            return found(NOTHING);
        }
        return rows.sizeOf(r) == camp.size ? ALLOWED : found(SIZE);
    }

    private boolean holdsOrder(int r) {
        int seen = 0;
        for (int p = 0; p < camp.size; p++) {
            int i = rows.get(r, p);
            if (!camp.isSleeper(i) || (seen >> i & 1) == 1) {
                return false;
            }
            seen |= 1 << i;
        }
        return true;
    }

    private static boolean isHour(int hour) {
        return hour >= 0 && hour < HOURS;
    }

    private boolean isKept(int k) {
        // a TENT without SLEEPERS is never kept
        return kept[k].size > 0;
    }

    private int keptTents() {
        int sum = 0;
        for (int k = 0; k < KEPT; k++) {
            sum += isKept(k) ? 1 : 0;
        }
        return sum;
    }

    private int seekOrder(int r, int aim) {
        int refusal = refuseRowToFill(r);
        if (refusal != ALLOWED) {
            return refusal;
        }
        trial.takePresent(camp);
        orders.begin(camp.size);
        int most = -1;
        int first = 0;
        for (int k = 0; k < ORDERS; k++) {
            if (aim == FOR_BAGS) {
                trial.takeBags(camp, orders.order);
            } else {
                trial.layBy(orders.order);
            }
            int reached = aim == FOR_LEAST ? trial.leastSlept() : trial.sleptByAll();
            if (reached > most) {
                most = reached;
                first = k;
            }
            if (!orders.advance()) {
                break;
            }
        }
        orders.goTo(camp.size, first);
        orders.writeTo(rows, r);
        return most;
    }

    private int suspects(int r, int reach) {
        int all = 0;
        for (int i = 0; i < camp.size; i++) {
            if (fitsWhatWasHeard(r, i, reach)) {
                all |= 1 << i;
            }
        }
        return all;
    }

    private boolean fitsWhatWasHeard(int r, int i, int reach) {
        for (int p = 0; p < camp.size; p++) {
            int heard = rows.get(r, p);
            int wouldHear = camp.hearsWithin(camp.who[p], i, reach) ? 1 : 0;
            if (heard != NONE && heard != wouldHear) {
                return false;
            }
        }
        return true;
    }

    /** Tells parts of twelve, to a power, in lowest terms: a power of lowest terms is in lowest terms. */
    private void tellPower(int parts, int power) {
        int shared = CHANCE_PARTS;
        while (shared > 1 && (parts % shared != 0 || CHANCE_PARTS % shared != 0)) {
            shared--;
        }
        chanceUpper = 1;
        chanceLower = 1;
        for (int k = 0; k < power; k++) {
            chanceUpper *= parts / shared;
            chanceLower *= CHANCE_PARTS / shared;
        }
    }

    private static void swap(int[] numbers, int i, int j) {
        int was = numbers[i];
        numbers[i] = numbers[j];
        numbers[j] = was;
    }

    /** Numbered rows of numbers, there or missing; all are made at once and used again. */
    private static final class Shelf {
        private final int limit;
        private final int[] sizes;
        private final int[] cells;

        Shelf(int many, int limit) {
            this.limit = limit;
            sizes = new int[many];
            cells = new int[many * limit];
            Arrays.fill(sizes, -1);
        }

        boolean isNumber(int r) {
            return r >= 0 && r < sizes.length;
        }

        boolean isThere(int r) {
            return sizeOf(r) >= 0;
        }

        boolean hasPlace(int r, int i) {
            return i >= 0 && i < sizeOf(r);
        }

        boolean hasSpan(int r, int i, int n) {
            // i + n might wrap around
            return i >= 0 && n >= 0 && i <= sizeOf(r) - n;
        }

        int sizeOf(int r) {
            return isNumber(r) ? sizes[r] : -1;
        }

        void make(int r, int n, int v) {
            if (isNumber(r) && n >= 0 && n <= limit) {
                sizes[r] = n;
                Arrays.fill(cells, r * limit, r * limit + n, v);
            }
        }

        void remove(int r) {
            if (isNumber(r)) {
                sizes[r] = -1;
            }
        }

        int get(int r, int i) {
            return hasPlace(r, i) ? cells[r * limit + i] : 0;
        }

        void set(int r, int i, int v) {
            if (hasPlace(r, i)) {
                cells[r * limit + i] = v;
            }
        }

        void move(int r, int i, int to, int j, int n) {
            if (hasSpan(r, i, n) && hasSpan(to, j, n)) {
                System.arraycopy(cells, r * limit + i, cells, to * limit + j, n);
            }
        }

        long sum(int r) {
            long sum = 0;
            for (int i = 0; i < sizeOf(r); i++) {
                sum += get(r, i);
            }
            return sum;
        }

        int howManyThere() {
            int there = 0;
            for (int r = 0; r < sizes.length; r++) {
                there += isThere(r) ? 1 : 0;
            }
            return there;
        }

        long digestOn(long ahead) {
            long h = ahead;
            for (int r = 0; r < sizes.length; r++) {
                h = 31 * h + sizeOf(r);
                for (int i = 0; i < sizeOf(r); i++) {
                    h = 31 * h + get(r, i);
                }
            }
            return h;
        }
    }

    /** Reads a TENT from a TEXT, as far as it goes on as it should. */
    private static final class Reader {
        static final int BLANK = 32;
        private static final int COLD_LETTER = 99, FIGURE_NOUGHT = 48, MOST_GIVEN = 5, MOST_FIGURE = 9;
        /** No byte is this, and no figure. */
        private static final int END = 1000;

        final Camp camp = new Camp(0);
        private final int[] signs = new int[TEXT_BYTES];
        private int size;
        private int next;

        /** The FAULT of a TEXT, or NONE: then the TENT stands in camp. */
        int read(Shelf texts, int t) {
            take(texts, t);
            camp.begin();
            if (!readCold()) {
                return next;
            }
            for (int i = 0; i < SLEEPERS; i++) {
                skipBlanks();
                if (i > 0 && sign() == END) {
                    return NONE;
                }
                if (!readSleeper()) {
                    return next;
                }
            }
            skipBlanks();
            return sign() == END ? NONE : next;
        }

        private void take(Shelf texts, int t) {
            size = Math.min(texts.sizeOf(t), TEXT_BYTES);
            next = 0;
            for (int i = 0; i < size; i++) {
                signs[i] = texts.get(t, i);
            }
        }

        private boolean readCold() {
            skipBlanks();
            if (sign() != COLD_LETTER) {
                return false;
            }
            next++;
            for (int h = 0; h < HOURS; h++) {
                int figure = readFigure(MOST_FIGURE);
                if (figure == END) {
                    return false;
                }
                camp.cold[h] = figure;
            }
            return true;
        }

        private boolean readSleeper() {
            int kind = kindOf(sign());
            if (kind == NONE) {
                return false;
            }
            next++;
            int gives = readFigure(MOST_GIVEN);
            if (gives == END) {
                return false;
            }
            int bag = readFigure(MOST_FIGURE);
            if (bag == END) {
                return false;
            }
            camp.add(kind, gives, bag);
            return true;
        }

        private int readFigure(int most) {
            int figure = sign() - FIGURE_NOUGHT;
            if (figure < 0 || figure > most) {
                return END;
            }
            next++;
            return figure;
        }

        private void skipBlanks() {
            while (next < size && sign() == BLANK) {
                next++;
            }
        }

        private int sign() {
            return next < size ? signs[next] : END;
        }

        private static int kindOf(int letter) {
            switch (letter) {
                case 's':
                    return SLEEPER;
                case 'n':
                    return SNORER;
                case 'd':
                    return DEAF;
                case 'h':
                    return STOVE;
                case 't':
                    return THUNDER;
                case 'k':
                    return STONE;
                default:
                    return NONE;
            }
        }
    }

    /** A TENT: who lies where, what is set, how an HOUR is slept, and what HOURS went by. */
    private static final class Camp {
        private static final int BOTTLE_WARMTH = 3, RIM_COLD = 2, VENT_COLD = 2, SORE_AFTER = 3;
        /** What is remembered of an HOUR: five settings, then four numbers of each SLEEPER. */
        private static final int SETTINGS = 5, MEMORY = SETTINGS + 4 * SLEEPERS;

        final int[] cold = new int[HOURS];
        final int[] kind = new int[SLEEPERS];
        final int[] gives = new int[SLEEPERS];
        final int[] bag = new int[SLEEPERS];
        final int[] place = new int[SLEEPERS];
        final int[] who = new int[SLEEPERS];
        private final int[] trulySlept = new int[SLEEPERS];
        private final int[] trulyAtRim = new int[SLEEPERS];
        private final int[] calm = new int[SLEEPERS];
        private final int[] past;
        int size;
        int vent;
        int bottle;
        int turns;
        int hour;
        int night;
        int hours;

        Camp(int remembered) {
            past = new int[remembered * MEMORY];
        }

        void begin() {
            size = 0;
            vent = 0;
            bottle = 0;
            turns = 0;
            hour = 0;
            night = 0;
            hours = 0;
        }

        void add(int ofKind, int given, int withBag) {
            if (size < SLEEPERS) {
                kind[size] = ofKind;
                gives[size] = given;
                bag[size] = withBag;
                place[size] = size;
                who[size] = size;
                trulySlept[size] = 0;
                trulyAtRim[size] = 0;
                size++;
            }
        }

        /** All but the HOURS that went by, which nothing that is tried out looks at. */
        void takePresent(Camp from) {
            System.arraycopy(from.cold, 0, cold, 0, HOURS);
            System.arraycopy(from.kind, 0, kind, 0, SLEEPERS);
            System.arraycopy(from.gives, 0, gives, 0, SLEEPERS);
            System.arraycopy(from.bag, 0, bag, 0, SLEEPERS);
            System.arraycopy(from.place, 0, place, 0, SLEEPERS);
            System.arraycopy(from.who, 0, who, 0, SLEEPERS);
            System.arraycopy(from.trulySlept, 0, trulySlept, 0, SLEEPERS);
            System.arraycopy(from.trulyAtRim, 0, trulyAtRim, 0, SLEEPERS);
            size = from.size;
            vent = from.vent;
            bottle = from.bottle;
            turns = from.turns;
            hour = from.hour;
            night = from.night;
        }

        void takeWhole(Camp from) {
            takePresent(from);
            hours = from.hours;
            System.arraycopy(from.past, 0, past, 0, Math.min(from.past.length, past.length));
        }

        void takeBags(Camp from, int[] whose) {
            for (int i = 0; i < size; i++) {
                bag[i] = from.bag[whose[i]];
            }
        }

        void layBy(int[] order) {
            for (int p = 0; p < size; p++) {
                who[p] = order[p];
                place[order[p]] = p;
            }
        }

        void fillPlaces() {
            for (int i = 0; i < size; i++) {
                who[place[i]] = i;
            }
        }

        int passHour() {
            int sleeping = sleepingOnes(hour);
            remember();
            for (int i = 0; i < size; i++) {
                trulySlept[i] += sleeping >> i & 1;
                trulyAtRim[i] += isAtRim(i) ? 1 : 0;
            }
            hour++;
            hours++;
            return sleeping;
        }

        private void remember() {
            int from = hours * MEMORY;
            if (from < 0 || from + MEMORY > past.length) {
                return;
            }
            past[from] = hour;
            past[from + 1] = night;
            past[from + 2] = vent;
            past[from + 3] = bottle;
            past[from + 4] = turns;
            int each = from + SETTINGS;
            System.arraycopy(place, 0, past, each, SLEEPERS);
            System.arraycopy(bag, 0, past, each + SLEEPERS, SLEEPERS);
            System.arraycopy(trulySlept, 0, past, each + 2 * SLEEPERS, SLEEPERS);
            System.arraycopy(trulyAtRim, 0, past, each + 3 * SLEEPERS, SLEEPERS);
        }

        void recall(int n) {
            int from = n * MEMORY;
            if (n < 0 || n >= hours || from + MEMORY > past.length) {
                return;
            }
            hours = n;
            hour = past[from];
            night = past[from + 1];
            vent = past[from + 2];
            bottle = past[from + 3];
            turns = past[from + 4];
            int each = from + SETTINGS;
            System.arraycopy(past, each, place, 0, SLEEPERS);
            System.arraycopy(past, each + SLEEPERS, bag, 0, SLEEPERS);
            System.arraycopy(past, each + 2 * SLEEPERS, trulySlept, 0, SLEEPERS);
            System.arraycopy(past, each + 3 * SLEEPERS, trulyAtRim, 0, SLEEPERS);
            fillPlaces();
        }

        boolean isSleeper(int i) {
            return i >= 0 && i < size;
        }

        int trait(int i, int what) {
            switch (what) {
                case 0:
                    return kind[i];
                case 1:
                    return givenFrom(place[i]);
                case 2:
                    return bag[i];
                case 3:
                    return place[i];
                case 4:
                    return trulySlept[i];
                default:
                    return trulyAtRim[i];
            }
        }

        static boolean isOf(int kind, int wanted) {
            return kind == wanted
                    || wanted == SNORER && kind == THUNDER
                    || wanted == DEAF && kind == STONE;
        }

        /** How many PLACES off a snore of a KIND is HEARD. */
        static int reach(int kind) {
            return kind == THUNDER ? 2 : kind == SNORER ? 1 : 0;
        }

        private int givenFrom(int p) {
            if (p < 0 || p >= size) {
                return 0;
            }
            int i = who[p];
            return kind[i] == STOVE ? 2 * gives[i] : gives[i];
        }

        int givenAway(int i) {
            int beside = (place[i] > 0 ? 1 : 0) + (place[i] < size - 1 ? 1 : 0);
            return beside * givenFrom(place[i]);
        }

        boolean isAtRim(int i) {
            return place[i] == 0 || place[i] == size - 1;
        }

        int snorers() {
            int sum = 0;
            for (int i = 0; i < size; i++) {
                sum += isOf(kind[i], SNORER) ? 1 : 0;
            }
            return sum;
        }

        /** Whether one lies within so many PLACES of another one. */
        private boolean isWithin(int i, int other, int reach) {
            int off = place[i] - place[other];
            return off != 0 && off <= reach && -off <= reach;
        }

        boolean hearsWithin(int i, int snorer, int reach) {
            return !isOf(kind[i], DEAF) && isWithin(i, snorer, reach);
        }

        int hearersOf(int snorer) {
            int sum = 0;
            for (int i = 0; i < size; i++) {
                sum += hearsWithin(i, snorer, reach(kind[snorer])) ? 1 : 0;
            }
            return sum;
        }

        int snorersNear(int i) {
            int sum = 0;
            for (int other = 0; other < size; other++) {
                sum += isWithin(i, other, reach(kind[other])) ? 1 : 0;
            }
            return sum;
        }

        private boolean hearsAny(int i) {
            boolean near = false;
            for (int other = 0; other < size && !near; other++) {
                near = isWithin(i, other, reach(kind[other]));
            }
            return near && !isOf(kind[i], DEAF);
        }

        int feeling(int i, int h) {
            return steadyFeeling(i) + hourlyFeeling(i, h);
        }

        private int steadyFeeling(int i) {
            return bag[i] + givenFrom(place[i] - 1) + givenFrom(place[i] + 1)
                    - (isAtRim(i) ? RIM_COLD : 0) - (vent == 1 ? VENT_COLD : 0);
        }

        private int hourlyFeeling(int i, int h) {
            int bottleIsAt = size > 0 ? (bottle + h) % size : NONE;
            return (place[i] == bottleIsAt ? BOTTLE_WARMTH : 0) - cold[h]
                    - (vent == 0 && isAtRim(i) ? h / 2 : 0);
        }

        /** HOURS in which all are SORE. */
        private int soreHours() {
            int sore = 0;
            int since = 0;
            for (int h = 0; h < HOURS; h++) {
                if ((turns >> h & 1) == 1) {
                    since = h;
                }
                if (h - since >= SORE_AFTER) {
                    sore |= 1 << h;
                }
            }
            return sore;
        }

        private int wokenHours(int i) {
            return kind[i] == STONE ? 0 : turns;
        }

        int reasons(int i, int h) {
            return (feeling(i, h) < 0 ? COLD : 0)
                    + (hearsAny(i) ? HEARS : 0)
                    + ((soreHours() >> h & 1) == 1 ? SORE : 0)
                    + ((wokenHours(i) >> h & 1) == 1 ? WOKEN : 0);
        }

        int sleepingOnes(int h) {
            int all = 0;
            for (int i = 0; i < size; i++) {
                all |= reasons(i, h) == 0 ? 1 << i : 0;
            }
            return all;
        }

        int coldOnes(int h) {
            int all = 0;
            for (int i = 0; i < size; i++) {
                all |= feeling(i, h) < 0 ? 1 << i : 0;
            }
            return all;
        }

        int hoursSlept(int i) {
            return Integer.bitCount(calmHours(i) & ~(soreHours() | wokenHours(i)));
        }

        /** HOURS in which one is not COLD and HEARS none: one SLEEPS in them but for the TURNS. */
        private int calmHours(int i) {
            if (hearsAny(i)) {
                return 0;
            }
            int steady = steadyFeeling(i);
            int all = 0;
            for (int h = 0; h < HOURS; h++) {
                all |= steady + hourlyFeeling(i, h) >= 0 ? 1 << h : 0;
            }
            return all;
        }

        /** TURNS change nothing of what is noted here, so that many TURNS are soon tried. */
        void noteCalm() {
            for (int i = 0; i < size; i++) {
                calm[i] = calmHours(i);
            }
        }

        int sleptOfCalm() {
            int sore = soreHours();
            int sum = 0;
            for (int i = 0; i < size; i++) {
                sum += Integer.bitCount(calm[i] & ~(sore | wokenHours(i)));
            }
            return sum;
        }

        int sleptByAll() {
            int sum = 0;
            for (int i = 0; i < size; i++) {
                sum += hoursSlept(i);
            }
            return sum;
        }

        int sleptByOthers(int one) {
            return sleptByAll() - hoursSlept(one);
        }

        int leastSlept() {
            int least = HOURS;
            for (int i = 0; i < size; i++) {
                least = Math.min(least, hoursSlept(i));
            }
            return least;
        }

        /** How many must not go out so that one who SLEEPS does so for a whole HOUR. */
        int mustStayIn(int i) {
            return kind[i] == STONE ? 1 : size - place[i];
        }
    }

    /** ORDERS, one after another, by number or by LOTS. */
    private static final class Orders {
        final int[] order = new int[SLEEPERS];
        private int size;

        static int howMany(int sleepers) {
            int product = 1;
            for (int k = 2; k <= sleepers; k++) {
                product *= k;
            }
            return product;
        }

        void begin(int sleepers) {
            size = Math.min(sleepers, SLEEPERS);
            for (int p = 0; p < size; p++) {
                order[p] = p;
            }
        }

        /** Goes to the next ORDER; says whether there was one. */
        boolean advance() {
            int rise = size - 2;
            while (rise >= 0 && order[rise] > order[rise + 1]) {
                rise--;
            }
            if (rise < 0) {
                return false;
            }
            int above = size - 1;
            while (above > rise && order[above] < order[rise]) {
                above--;
            }
            swap(order, rise, above);
            for (int a = rise + 1, b = size - 1; a < b; a++, b--) {
                swap(order, a, b);
            }
            return true;
        }

        void goTo(int sleepers, int k) {
            size = Math.min(sleepers, SLEEPERS);
            int left = (1 << size) - 1;
            int alike = howMany(size);
            for (int p = 0; p < size; p++) {
                alike /= size - p;
                order[p] = pick(left, k / alike % (size - p));
                left &= ~(1 << order[p]);
            }
        }

        void draw(int sleepers, int seed) {
            size = Math.min(sleepers, SLEEPERS);
            int left = (1 << size) - 1;
            long lot = seed;
            for (int p = 0; p < size; p++) {
                lot = lot * LOT_FACTOR % LOT_MODULUS;
                order[p] = pick(left, (int) (lot % (size - p)));
                left &= ~(1 << order[p]);
            }
        }

        /** The member of a set that has so many smaller ones. */
        private static int pick(int set, int smaller) {
            int skipped = 0;
            for (int i = 0; i < SLEEPERS; i++) {
                if ((set >> i & 1) == 1) {
                    if (skipped == smaller) {
                        return i;
                    }
                    skipped++;
                }
            }
            return 0;
        }

        void readFrom(Shelf rows, int r, int sleepers) {
            size = Math.min(sleepers, SLEEPERS);
            for (int p = 0; p < size; p++) {
                order[p] = rows.get(r, p);
            }
        }

        void writeTo(Shelf rows, int r) {
            rows.make(r, size, 0);
            for (int p = 0; p < size; p++) {
                rows.set(r, p, order[p]);
            }
        }
    }

    /** Chooses ORDERS for some NIGHTS so that who SLEEPS least in all of them SLEEPS most. */
    private static final class Plan {
        private final int[] numbers = new int[ORDERS];
        /** HOURS slept, a line of SLEEPERS for each ORDER that is worth looking at. */
        private final int[] lines = new int[ORDERS * SLEEPERS];
        private final int[] mostOf = new int[SLEEPERS];
        /** HOURS slept in the NIGHTS chosen so far, a line for each number of NIGHTS. */
        private final int[] sums = new int[(MOST_NIGHTS + 1) * SLEEPERS];
        private final int[] chosen = new int[MOST_NIGHTS];
        private final int[] best = new int[MOST_NIGHTS];
        private int bestLeast;
        private int many;
        private int size;

        void begin(int sleepers) {
            size = Math.min(sleepers, SLEEPERS);
            many = 0;
            Arrays.fill(mostOf, 0);
        }

        /** Drops an ORDER if an earlier one is as good for all: the first best row never needs it. */
        void offer(int number, Camp camp) {
            if (many >= ORDERS) {
                return;
            }
            for (int i = 0; i < size; i++) {
                int slept = camp.hoursSlept(i);
                lines[many * SLEEPERS + i] = slept;
                mostOf[i] = Math.max(mostOf[i], slept);
            }
            if (!isNeedless()) {
                numbers[many] = number;
                many++;
            }
        }

        private boolean isNeedless() {
            for (int earlier = 0; earlier < many; earlier++) {
                int i = 0;
                while (i < size && lines[earlier * SLEEPERS + i] >= lines[many * SLEEPERS + i]) {
                    i++;
                }
                if (i == size) {
                    return true;
                }
            }
            return false;
        }

        int choose(int n) {
            bestLeast = -1;
            Arrays.fill(sums, 0);
            chooseFrom(0, 0, Math.min(n, MOST_NIGHTS));
            return bestLeast;
        }

        /** Goes on behind the NIGHTS chosen so far, with none of an earlier number; at most three deep. */
        private void chooseFrom(int first, int nightsChosen, int n) {
            // with no NIGHT left the bound is just what the least one SLEPT
            int bound = bound(nightsChosen, n);
            if (bound <= bestLeast) {
                return;
            }
            if (nightsChosen >= n) {
                bestLeast = bound;
                System.arraycopy(chosen, 0, best, 0, n);
                return;
            }
            int from = nightsChosen * SLEEPERS;
            for (int k = first; k < many; k++) {
                for (int i = 0; i < size; i++) {
                    sums[from + SLEEPERS + i] = sums[from + i] + lines[k * SLEEPERS + i];
                }
                chosen[nightsChosen] = k;
                chooseFrom(k, nightsChosen + 1, n);
            }
        }

        /** What the least one can SLEEP at most, if each has the best of all ORDERS in the NIGHTS left. */
        private int bound(int nightsChosen, int n) {
            int least = HOURS * MOST_NIGHTS;
            for (int i = 0; i < size; i++) {
                int reachable = sums[nightsChosen * SLEEPERS + i] + (n - nightsChosen) * mostOf[i];
                least = Math.min(least, reachable);
            }
            return least;
        }

        void writeTo(Shelf rows, int r, int n) {
            rows.make(r, n, 0);
            for (int k = 0; k < n && k < MOST_NIGHTS; k++) {
                rows.set(r, k, numbers[best[k]]);
            }
        }
    }
}
