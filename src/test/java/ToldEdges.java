import java.util.Arrays;

/** Promises 45 to 51, what is told, each sentence at its edges. */
final class ToldEdges {
    private static final int BAD = Run.BAD, FINDING = Run.FINDING, STATE = Run.STATE, LEAST = Run.LEAST, MOST = Run.MOST;
    private static final int NOTHING = Run.NOTHING, BEYOND = Run.BEYOND, UNLIKE = Run.UNLIKE, NOUGHT = Run.NOUGHT;
    private static final int SIZE = Run.SIZE;
    /** What digest() takes of those that are missing. */
    private static final int[] NO_KEPT = {-1, -1, -1}, NO_ROWS = {-1, -1, -1, -1, -1, -1}, NO_TEXTS = {-1, -1, -1, -1};

    private ToldEdges() {
    }

    // ---- asked

    @Says("What the latest lay(), at(), mean(), sleeper(), now(), feels(), sleeps(), coldest(), good(), worth(), turning(), warm(), "
            + "out(), whose() that was not refused told;")
    static void p45_asked() {
        // 1 has no BAG, but what 0 GIVES, and HEARS 2
        Run x = Run.of("c55555555 s49 s00 n09").then("night").fill(0, 7, 9, 0).fill(1, Run.NONE, Run.NONE, Run.NONE);
        x.tells(9, "at", 0, 1).tells(7, "lay", 0, 0, 12).tells(7, "mean", 0).tells(4, "sleeper", 0, 1).answersTelling(0, 1, "now");
        x.tells(2, "feels", 1, 1).answersTelling(0b101, 0, "sleeps", 1).answersTelling(0b101, 0b10, "sleeps", 0);
        x.answersTelling(0, 7, "coldest").tells(-1, "good", 2).answersTelling(6, 0, "worth").answersTelling(8, 10, "turning");
        x.answersTelling(0, 6, "warm").answersTelling(2, 0b11, "out", 2).answersTelling(0b111, 0b111, "whose", 1);
        // as often as wanted
        x.answers(0b111, "asked").answers(0b111, "asked");
        // no other call tells by it
        Run told = Run.rich().then("at", 2, 39);
        Object[][] others = {{"row", 3, 3}, {"tear", 1}, {"copy", 0, 0, 2, 0, 1}, {"text", 3, 3}, {"put", 0, 0, 1}, {"fault", 0},
            {"tent", 0}, {"mark", 1, 1}, {"vent", 1}, {"bottle", 1}, {"turns", 1}, {"change", 0, 1}, {"bags", 0, 1}, {"lie", 0},
            {"hour"}, {"night"}, {"undo", 0}, {"keep", 1}, {"on", 1}, {"why", 0, 0}, {"slept", 0}, {"best", 3}, {"fair", 3},
            {"thin", 3}, {"nights", 2, 3}, {"nth", 3, 3}, {"kinds", 0, 9}, {"odds", 0, 0, 1}, {"lots", 9}, {"upper"}, {"lower"},
            {"count", 1}, {"finding"}, {"findings", 1}, {"digest"}};
        for (Object[] call : others) {
            int[] arguments = Arrays.stream(call).skip(1).mapToInt(v -> (Integer) v).toArray();
            Run y = told.again();
            y.ask((String) call[0], arguments);
            Due.equal(call[0] + ", then asked()", y.ask("asked"), MOST);
        }
        // nor what is refused
        told.refuses(BAD, "lay", 6, 0, 0).finds(BEYOND, "at", 0, 5).finds(NOUGHT, "mean", 1).refuses(BAD, "sleeper", 5, 0);
        told.refuses(BAD, "feels", 0, 8).refuses(BAD, "sleeps", 8).refuses(BAD, "good", 5).refuses(BAD, "out", 5);
        told.finds(SIZE, "whose", 1).fill(3, 0, 0, 0, 0, 2).then("at", 2, 39).finds(UNLIKE, "whose", 3);
        Run none = Run.fresh().fill(0, 7).then("at", 0, 0);
        none.refuses(STATE, "now").refuses(STATE, "coldest").refuses(STATE, "worth").refuses(STATE, "turning");
        none.refuses(STATE, "warm").refuses(STATE, "whose", 0);
    }

    @Says("0 before.")
    static void p45_0_before() {
        Run.fresh().answers(0, "asked");
        Run.of("c00000000 s09").then("row", 0, 3).then("best", 1).then("hour").answers(0, "asked");
    }

    // ---- upper, lower

    private static Run told() {
        return Run.of("c00000000 s09 s09").then("odds", 0, 0, 5);
    }

    @Says("The upper number of the chances that were told last;")
    static void p46_upper() {
        Run x = told().answers(49, "upper").then("odds", 1, 0, 5).answers(7, "upper").answers(7, "upper");
        x.refuses(BAD, "odds", 2, 0, 5).answers(BAD, "odds", 0, 0, 13).answers(7, "upper");
        x.then("tent", 0).then("lots", 3).then("hour").answers(7, "upper").then("odds", 0, 7, 0).answers(0, "upper");
        x.then("odds", 0, 0, 0).answers(1, "upper");
        // the most
        Run.of(Run.alike("00000000", 5, "s09")).then("odds", 0, 0, 1).answers(161051, "upper");
    }

    @Says("0 before.")
    static void p46_0_before() {
        Run.fresh().answers(0, "upper").answers(BAD, "odds", 0, 0, 1).answers(0, "upper");
    }

    @Says("Its lower number;")
    static void p47_lower() {
        Run x = told().answers(144, "lower").then("odds", 1, 0, 5).answers(12, "lower").answers(12, "lower");
        x.refuses(BAD, "odds", 2, 0, 5).answers(BAD, "odds", 0, 0, 13).answers(12, "lower");
        x.then("tent", 0).then("lots", 3).then("hour").answers(12, "lower").then("odds", 0, 7, 0).answers(1, "lower");
        // by lots 1 lies at the DOOR
        x.lies(1, 0).then("odds", 1, 0, 6).answers(4, "lower");
        Run.of(Run.alike("00000000", 5, "s09")).then("odds", 0, 0, 1).answers(248832, "lower");
    }

    @Says("1 before.")
    static void p47_1_before() {
        Run.fresh().answers(1, "lower").answers(BAD, "odds", 0, 0, 1).answers(1, "lower");
    }

    // ---- count

    @Says("0 SLEEPERS, 1 HOURS that went by, 2 the NIGHT, 3 TURNS (as a number), 4 whether the VENT is open (1, 0), 5 SNORERS "
            + "(THUNDERS, too), 6 ROWS, 7 TEXTS that are there, 8 kept TENTS.")
    static void p48_count() {
        Run x = Run.fresh();
        dueCounts(x, 0, 0, 0, 0, 0, 0, 0, 0, 0);
        x.write(0, "c00000000 s09 n09 d09 t09 k09").then("tent", 0);
        dueCounts(x, 5, 0, 0, 0, 0, 2, 0, 1, 0);
        for (int r = 0; r < 6; r++) {
            x.then("row", r, r == 3 ? 40 : 0);
        }
        x.then("text", 1, 0).then("text", 2, 60).then("text", 3, 1).then("turns", 255).then("vent", 1);
        x.then("keep", 0).then("keep", 1).then("keep", 2);
        dueCounts(x, 5, 0, 0, 255, 1, 2, 6, 4, 3);
        for (int k = 0; k < 9; k++) {
            x.hours(k < 4 ? 8 : 0).then("night");
        }
        x.hours(8).then("tear", 3).then("tear", 0).then("text", 1, 5).then("keep", 2).then("vent", 0).then("turns", 1);
        dueCounts(x, 5, 40, 9, 1, 0, 2, 4, 4, 3);
        x.write(0, Run.alike("00000000", 5, "t09")).then("tent", 0);
        dueCounts(x, 5, 0, 0, 0, 0, 5, 4, 4, 0);
        x.write(0, "c00000000 d09").then("tent", 0);
        dueCounts(x, 1, 0, 0, 0, 0, 0, 4, 4, 0);
        for (int what = 0; what <= 8; what++) {
            x.changesOnly("", "count", what);
        }
    }

    private static void dueCounts(Run x, int... counts) {
        for (int what = 0; what < counts.length; what++) {
            x.answers(counts[what], "count", what);
        }
    }

    @Says("BAD.")
    static void p48_BAD() {
        for (int what : new int[] {LEAST, -9, -1, 9, 10, MOST}) {
            Run.rich().refuses(BAD, "count", what);
            Run.fresh().refuses(BAD, "count", what);
        }
    }

    // ---- finding, findings

    @Says("The latest FINDING (0 before any).")
    static void p49_finding() {
        Run x = Run.fresh().answers(0, "finding").answers(BAD, "at", 6, 0).answers(STATE, "hour").answers(0, "finding");
        x.answers(FINDING, "at", 0, 0).answers(NOTHING, "finding").then("row", 0, 0).answers(NOTHING, "finding");
        x.answers(FINDING, "at", 0, 0).answers(BEYOND, "finding").answers(FINDING, "mean", 0).answers(NOUGHT, "finding");
        x.answers(FINDING, "row", 0, -1).answers(SIZE, "finding").write(0, "c00000000 s09").then("tent", 0);
        x.answers(FINDING, "mark", 0, 1).answers(UNLIKE, "finding").answers(BAD, "mark", 0, 0).answers(UNLIKE, "finding");
        // neither another TENT nor one gone on from nor what is undone changes it
        x.then("keep", 0).then("hour").answers(FINDING, "tear", 5).then("undo", 0).then("on", 0).then("tent", 0);
        x.answers(NOTHING, "finding").changesOnly("", "finding");
    }

    @Says("How often a FINDING (1 .. 5) was answered.")
    static void p50_findings() {
        Run x = Run.of("c00000000 s09");
        for (int f = 1; f <= 5; f++) {
            x.answers(0, "findings", f);
        }
        int[] often = {0, 1, 2, 3, 4, 5};
        x.answers(FINDING, "tear", 0).then("row", 0, 0);
        for (int k = 0; k < 5; k++) {
            if (k < 2) {
                x.answers(FINDING, "at", 0, 0);
            }
            if (k < 3) {
                x.answers(FINDING, "mark", 0, 1);
            }
            if (k < 4) {
                x.answers(FINDING, "mean", 0);
            }
            x.answers(FINDING, "row", 0, -1);
        }
        x.write(1, "c").answers(BAD, "row", 6, -1).answers(STATE, "tent", 1).answers(BAD, "at", 6, 0);
        for (int f = 1; f <= 5; f++) {
            x.answers(often[f], "findings", f);
        }
        // neither another TENT nor one gone on from nor what is undone changes them
        x.then("keep", 0).then("hour").answers(FINDING, "tear", 5).then("undo", 0).then("on", 0).then("tent", 0);
        x.answers(2, "findings", NOTHING).changesOnly("", "findings", 1);
        Run many = Run.fresh();
        for (int k = 0; k < 500; k++) {
            many.answers(FINDING, "at", 0, 0);
        }
        many.answers(500, "findings", NOTHING);
    }

    @Says("BAD.")
    static void p50_BAD() {
        for (int f : new int[] {LEAST, -9, -1, 0, 6, 7, MOST}) {
            Run.rich().refuses(BAD, "findings", f);
            Run.fresh().refuses(BAD, "findings", f);
        }
    }

    // ---- digest

    private static void dueDigest(Run x, int[]... parts) {
        long h = 17;
        for (int[] part : parts) {
            for (int v : part) {
                h = 31 * h + v;
            }
        }
        x.answers(h, "digest").answers(h, "digest").changesOnly("", "digest");
    }

    private static int[] numbers(int... v) {
        return v;
    }

    @Says("h = 17; then h = 31 h + v for each v: count() 0 to 8; the PLACE of the BOTTLE in HOUR 0; of each SLEEPER sleeper() 0 to 5;")
    static void p51_tent() {
        dueDigest(Run.fresh(), new int[10], NO_KEPT, NO_ROWS, NO_TEXTS);
        Run x = Run.of("c00000000 h59 t08 k17").then("text", 0, 0);
        int[] noTexts = {0, -1, -1, -1};
        dueDigest(x, numbers(3, 0, 0, 0, 0, 1, 0, 1, 0, 0), numbers(3, 10, 9, 0, 0, 0), numbers(4, 0, 8, 1, 0, 0),
                numbers(5, 1, 7, 2, 0, 0), NO_KEPT, NO_ROWS, noTexts);
        // THUNDER 1 comes to the DOOR: 0 HEARS it, the STONE not
        x.then("turns", 128).then("vent", 1).then("bottle", 2).then("change", 0, 1).then("bags", 0, 2).hours(2).then("night");
        dueDigest(x, numbers(3, 2, 1, 128, 1, 1, 0, 1, 0, 2), numbers(3, 10, 7, 1, 0, 0), numbers(4, 0, 8, 0, 2, 2),
                numbers(5, 1, 9, 2, 2, 2), NO_KEPT, NO_ROWS, noTexts);
    }

    @Says("of each kept TENT how many HOURS went by (-1: missing);")
    static void p51_kept() {
        Run x = Run.of("c99999999 s00").then("text", 0, 0).then("keep", 2);
        int[] noTexts = {0, -1, -1, -1};
        dueDigest(x, numbers(1, 0, 0, 0, 0, 0, 0, 1, 1, 0), numbers(0, 0, 0, 0, 0, 0), numbers(-1, -1, 0), NO_ROWS, noTexts);
        x.hours(8).then("keep", 0).then("undo", 3).then("keep", 1);
        dueDigest(x, numbers(1, 3, 0, 0, 0, 0, 0, 1, 3, 0), numbers(0, 0, 0, 0, 0, 3), numbers(8, 3, 0), NO_ROWS, noTexts);
        x.then("on", 0);
        dueDigest(x, numbers(1, 8, 0, 0, 0, 0, 0, 1, 3, 0), numbers(0, 0, 0, 0, 0, 8), numbers(8, 3, 0), NO_ROWS, noTexts);
    }

    @Says("of each ROW its size (-1: missing) and places, of each TEXT likewise.")
    static void p51_rows_and_texts() {
        Run x = Run.fresh().then("row", 0, 0).fill(2, LEAST, MOST, -1).then("text", 3, 3).then("put", 3, 0, 255);
        x.then("put", 3, 1, 127).then("put", 3, 2, 128).then("text", 0, 0).then("text", 1, 1);
        dueDigest(x, numbers(0, 0, 0, 0, 0, 0, 2, 3, 0, 0), NO_KEPT, numbers(0, -1, 3, LEAST, MOST, -1, -1, -1, -1),
                numbers(0, 1, 32, -1, 3, -1, 127, -128));
        x.then("tear", 0).then("row", 2, 1);
        dueDigest(x, numbers(0, 0, 0, 0, 0, 0, 1, 3, 0, 0), NO_KEPT, numbers(-1, -1, 1, 0, -1, -1, -1),
                numbers(0, 1, 32, -1, 3, -1, 127, -128));
        // all that there can be
        int[] row = new int[41];
        row[0] = 40;
        row[40] = LEAST;
        int[] text = new int[61];
        Arrays.fill(text, 32);
        text[0] = 60;
        text[60] = -128;
        Run full = Run.fresh();
        for (int r = 0; r < 6; r++) {
            full.then("row", r, 40).then("lay", r, 39, LEAST);
        }
        for (int t = 0; t < 4; t++) {
            full.then("text", t, 60).then("put", t, 59, 128);
        }
        dueDigest(full, numbers(0, 0, 0, 0, 0, 0, 6, 4, 0, 0), NO_KEPT, row, row, row, row, row, row, text, text, text, text);
    }
}
