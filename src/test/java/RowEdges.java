/** Promises 1 to 9, rows and texts, each sentence at its edges. */
final class RowEdges {
    private static final int BAD = Run.BAD, STATE = Run.STATE, FINDING = Run.FINDING;
    private static final int NOTHING = Run.NOTHING, BEYOND = Run.BEYOND, NOUGHT = Run.NOUGHT, SIZE = Run.SIZE;
    private static final int LEAST = Run.LEAST, MOST = Run.MOST;
    private static final int[] NO_ROWS = {LEAST, -9, -1, 6, 7, 40, MOST};
    private static final int[] NO_TEXTS = {LEAST, -9, -1, 4, 5, 60, MOST};

    private RowEdges() {
    }

    @Says("No ROWS, TEXTS, SLEEPERS.")
    static void p01_none_of_all() {
        Run x = Run.fresh();
        for (int what = 0; what <= 8; what++) {
            x.answers(0, "count", what);
        }
        for (int r = 0; r <= 5; r++) {
            x.finds(NOTHING, "at", r, 0);
        }
        for (int t = 0; t <= 3; t++) {
            x.finds(NOTHING, "fault", t);
        }
        for (int k = 0; k <= 2; k++) {
            x.finds(NOTHING, "on", k);
        }
        x.refuses(BAD, "sleeper", 0, 0).refuses(BAD, "bottle", 0).refuses(STATE, "hour").refuses(STATE, "worth");
        x.answers(0, "asked").answers(0, "upper").answers(1, "lower").answers(0, "finding");
        // one object knows nothing of another one
        Run.rich();
        x.isLike("another object", Run.fresh(), "asked");
    }

    // ---- row

    @Says("A ROW is there with n ints 0: n.")
    static void p02_there_with_n_ints_0() {
        Run x = Run.fresh().answers(0, "row", 0, 0).holds(0).answers(1, "row", 5, 1).holds(5, 0);
        x.answers(39, "row", 3, 39).answers(40, "row", 4, 40).holds(4, new int[40]);
        x.then("lay", 4, 0, 7).then("lay", 4, 39, 8).answers(2, "row", 4, 2).holds(4, 0, 0);
        x.answers(40, "row", 4, 40).holds(4, new int[40]).holds(5, 0).answers(4, "count", 6);
        x.then("lay", 5, 0, 3).answers(0, "row", 4, 0).holds(4).holds(5, 3);
    }

    @Says("BAD: also n above 40;")
    static void p02_BAD_also_n_above_40() {
        Run x = Run.rich().refuses(BAD, "row", 2, 41).refuses(BAD, "row", 3, 41).refuses(BAD, "row", 0, MOST);
        for (int r : NO_ROWS) {
            x.refuses(BAD, "row", r, 0).refuses(BAD, "row", r, 40).refuses(BAD, "row", r, 41).refuses(BAD, "row", r, -1);
        }
        x.answers(40, "row", 3, 40);
    }

    @Says("SIZE: below 0.")
    static void p02_SIZE_below_0() {
        Run x = Run.rich().finds(SIZE, "row", 2, -1).finds(SIZE, "row", 3, -1).finds(SIZE, "row", 0, LEAST);
        x.finds(SIZE, "row", 5, -9).answers(0, "row", 5, 0);
    }

    // ---- lay, at, tear

    @Says("Place i of a ROW is v: what it was, told by asked(): 1.")
    static void p03_place_is_v() {
        Run x = Run.fresh().then("row", 0, 1).then("row", 1, 40).then("row", 2, 3);
        x.tells(0, "lay", 0, 0, MOST).tells(MOST, "lay", 0, 0, LEAST).tells(LEAST, "lay", 0, 0, -1).tells(-1, "lay", 0, 0, 0);
        x.tells(0, "lay", 1, 0, 5).tells(0, "lay", 1, 39, 6).tells(5, "at", 1, 0).tells(6, "at", 1, 39).tells(0, "at", 1, 38);
        x.holds(0, 0).holds(2, 0, 0, 0);
    }

    @Says("BAD;")
    static void p03_BAD() {
        Run x = Run.rich();
        for (int r : NO_ROWS) {
            x.refuses(BAD, "lay", r, 0, 1).refuses(BAD, "lay", r, -1, 1);
        }
    }

    @Says("NOTHING;")
    static void p03_NOTHING() {
        Run.rich().finds(NOTHING, "lay", 3, 0, 1).finds(NOTHING, "lay", 5, -1, 1).finds(NOTHING, "lay", 4, 40, 1);
    }

    @Says("BEYOND.")
    static void p03_BEYOND() {
        Run x = Run.rich().finds(BEYOND, "lay", 0, 5, 1).finds(BEYOND, "lay", 0, -1, 1).finds(BEYOND, "lay", 1, 0, 1);
        x.finds(BEYOND, "lay", 2, 40, 1).finds(BEYOND, "lay", 2, LEAST, 1).finds(BEYOND, "lay", 2, MOST, 1);
        // what an earlier, longer ROW had there is gone
        x.then("row", 2, 1).finds(BEYOND, "lay", 2, 1, 1).then("lay", 2, 0, 1);
    }

    @Says("Place i of a ROW, told by asked(): 1.")
    static void p04_place_is_told() {
        Run x = Run.fresh().fill(0, LEAST, -1, 0, 1, MOST).then("row", 5, 40).then("lay", 5, 39, 9);
        x.tells(LEAST, "at", 0, 0).tells(-1, "at", 0, 1).tells(0, "at", 0, 2).tells(1, "at", 0, 3).tells(MOST, "at", 0, 4);
        x.tells(0, "at", 5, 0).tells(9, "at", 5, 39).changesOnly("asked", "at", 0, 0);
    }

    @Says("BAD;")
    static void p04_BAD() {
        Run x = Run.rich();
        for (int r : NO_ROWS) {
            x.refuses(BAD, "at", r, 0).refuses(BAD, "at", r, -1);
        }
    }

    @Says("NOTHING;")
    static void p04_NOTHING() {
        Run.rich().finds(NOTHING, "at", 3, 0).finds(NOTHING, "at", 5, -1).finds(NOTHING, "at", 4, 40);
    }

    @Says("BEYOND.")
    static void p04_BEYOND() {
        Run x = Run.rich().finds(BEYOND, "at", 0, 5).finds(BEYOND, "at", 0, -1).finds(BEYOND, "at", 1, 0);
        x.finds(BEYOND, "at", 1, -1).finds(BEYOND, "at", 2, 40).finds(BEYOND, "at", 2, LEAST).finds(BEYOND, "at", 2, MOST);
    }

    @Says("A ROW is missing: 1.")
    static void p05_missing() {
        Run x = Run.fresh().fill(0, 4, 5).then("row", 1, 0).then("row", 5, 40);
        x.answers(1, "tear", 1).answers(2, "count", 6).finds(NOTHING, "at", 1, 0).holds(0, 4, 5);
        x.answers(1, "tear", 5).answers(1, "tear", 0).answers(0, "count", 6);
        x.isLike("all ROWS torn", Run.fresh(), "asked");
        x.answers(2, "row", 0, 2).holds(0, 0, 0);
    }

    @Says("BAD;")
    static void p05_BAD() {
        Run x = Run.rich();
        for (int r : NO_ROWS) {
            x.refuses(BAD, "tear", r);
        }
    }

    @Says("NOTHING.")
    static void p05_NOTHING() {
        Run.rich().finds(NOTHING, "tear", 3).finds(NOTHING, "tear", 5).then("tear", 0).finds(NOTHING, "tear", 0);
    }

    // ---- copy

    @Says("n places of a ROW, from one on, come to those of another one (perhaps itself) from one on, as if taken ahead: 1.")
    static void p06_places_come_as_if_taken_ahead() {
        Run x = Run.fresh().fill(0, 1, 2, 3, 4, 5).fill(1, 9, 8, 7);
        x.answers(1, "copy", 0, 0, 0, 1, 4).holds(0, 1, 1, 2, 3, 4).answers(1, "copy", 0, 1, 0, 0, 4).holds(0, 1, 2, 3, 4, 4);
        x.answers(1, "copy", 0, 0, 0, 0, 5).holds(0, 1, 2, 3, 4, 4);
        x.answers(1, "copy", 0, 2, 1, 0, 3).holds(1, 3, 4, 4).holds(0, 1, 2, 3, 4, 4);
        x.answers(1, "copy", 1, 0, 0, 4, 1).holds(0, 1, 2, 3, 4, 3).holds(1, 3, 4, 4);
        x.changesOnly("", "copy", 0, 0, 0, 0, 5);
        // none come: also just behind the last place, and from and to empty ROWS
        x.then("row", 2, 0).changesOnly("", "copy", 0, 5, 1, 3, 0).changesOnly("", "copy", 2, 0, 2, 0, 0);
        x.changesOnly("", "copy", 2, 0, 0, 0, 0).changesOnly("", "copy", 0, 0, 2, 0, 0);
        // full ROWS
        x.then("row", 3, 40).then("row", 4, 40).then("lay", 3, 0, LEAST).then("lay", 3, 39, MOST);
        x.answers(1, "copy", 3, 0, 4, 0, 40).tells(LEAST, "at", 4, 0).tells(MOST, "at", 4, 39).tells(0, "at", 4, 38);
        x.answers(1, "copy", 4, 0, 4, 1, 39).tells(LEAST, "at", 4, 1).tells(0, "at", 4, 39);
    }

    @Says("BAD;")
    static void p06_BAD() {
        Run x = Run.rich();
        for (int r : NO_ROWS) {
            x.refuses(BAD, "copy", r, 0, 0, 0, 1).refuses(BAD, "copy", 0, 0, r, 0, 1).refuses(BAD, "copy", r, -1, r, -1, -1);
        }
    }

    @Says("SIZE: n below 0;")
    static void p06_SIZE_n_below_0() {
        Run x = Run.rich().finds(SIZE, "copy", 0, 0, 0, 0, -1).finds(SIZE, "copy", 2, 0, 2, 0, LEAST);
        // ahead of NOTHING and BEYOND
        x.finds(SIZE, "copy", 3, 0, 4, 0, -1).finds(SIZE, "copy", 0, 9, 0, 9, -1).changesOnly("", "copy", 0, 0, 0, 0, 0);
    }

    @Says("NOTHING: either;")
    static void p06_NOTHING_either() {
        Run x = Run.rich().finds(NOTHING, "copy", 3, 0, 0, 0, 1).finds(NOTHING, "copy", 0, 0, 3, 0, 1);
        x.finds(NOTHING, "copy", 3, 0, 3, 0, 0).finds(NOTHING, "copy", 0, -1, 5, 0, 41).finds(NOTHING, "copy", 4, 0, 0, 5, 9);
    }

    @Says("BEYOND: not so many there.")
    static void p06_BEYOND_not_so_many_there() {
        Run x = Run.rich().finds(BEYOND, "copy", 0, 0, 2, 0, 6).finds(BEYOND, "copy", 2, 0, 0, 0, 6);
        x.finds(BEYOND, "copy", 0, 1, 2, 0, 5).finds(BEYOND, "copy", 2, 0, 0, 1, 5).finds(BEYOND, "copy", 2, 0, 2, 0, 41);
        x.finds(BEYOND, "copy", 0, -1, 2, 0, 1).finds(BEYOND, "copy", 2, 0, 0, -1, 1).finds(BEYOND, "copy", 1, 0, 1, 0, 1);
        x.finds(BEYOND, "copy", 0, 6, 0, 0, 0).finds(BEYOND, "copy", 0, 0, 0, 6, 0).finds(BEYOND, "copy", 0, -1, 0, 0, 0);
        x.finds(BEYOND, "copy", 0, 0, 0, -1, 0);
        // sums that wrap around
        x.finds(BEYOND, "copy", 0, 1, 2, 1, MOST).finds(BEYOND, "copy", 0, MOST, 2, 0, 1).finds(BEYOND, "copy", 0, 0, 2, MOST, 1);
        x.finds(BEYOND, "copy", 0, MOST, 2, MOST, MOST).finds(BEYOND, "copy", 0, LEAST, 2, 0, 1);
        x.finds(BEYOND, "copy", 0, LEAST, 2, LEAST, MOST);
        x.answers(1, "copy", 0, 0, 2, 35, 5).answers(1, "copy", 2, 35, 0, 0, 5).holds(0, 4, 2, 0, 1, 3);
    }

    // ---- mean

    private static void dueMean(int want, int... values) {
        Run.fresh().fill(0, values).tells(want, "mean", 0);
    }

    @Says("The mean of a ROW's ints, cut, told by asked(): 1.")
    static void p07_mean_cut() {
        dueMean(7, 7);
        dueMean(LEAST, LEAST);
        dueMean(1, 1, 2);
        dueMean(-1, -1, -2);
        dueMean(0, 0, 1);
        dueMean(0, 0, -1);
        dueMean(0, -1, -1, -1, 1, 1);
        dueMean(2, 1, 2, 5);
        dueMean(-2, -1, -2, -5);
        // sums that an int could not hold
        dueMean(MOST, MOST, MOST, MOST);
        dueMean(LEAST, LEAST, LEAST, LEAST);
        dueMean(0, MOST, LEAST);
        dueMean(MOST - 1, MOST, MOST, MOST - 1, MOST - 1);
        int[] full = new int[40];
        java.util.Arrays.fill(full, LEAST);
        dueMean(LEAST, full);
        full[39] = MOST;
        dueMean((int) ((39L * LEAST + MOST) / 40), full);
        Run.fresh().fill(0, 3, 4).changesOnly("asked", "mean", 0);
    }

    @Says("BAD;")
    static void p07_BAD() {
        Run x = Run.rich();
        for (int r : NO_ROWS) {
            x.refuses(BAD, "mean", r);
        }
    }

    @Says("NOTHING;")
    static void p07_NOTHING() {
        Run.rich().finds(NOTHING, "mean", 3).finds(NOTHING, "mean", 5);
    }

    @Says("NOUGHT.")
    static void p07_NOUGHT() {
        Run.rich().finds(NOUGHT, "mean", 1).then("row", 1, 1).tells(0, "mean", 1);
    }

    // ---- text, put

    /** Reads bytes of a TEXT by putting them again. */
    private static void dueBytes(Run x, int t, int from, int... bytes) {
        Run y = x.again();
        for (int i = 0; i < bytes.length; i++) {
            y.answers(1000 + bytes[i], "put", t, from + i, 1);
        }
    }

    @Says("A TEXT is there with n blanks: n.")
    static void p08_there_with_n_blanks() {
        Run x = Run.fresh().answers(0, "text", 0, 0).finds(BEYOND, "put", 0, 0, 1).answers(0, "fault", 0);
        x.answers(1, "text", 3, 1).answers(1, "fault", 3).finds(BEYOND, "put", 3, 1, 1);
        int[] blanks = new int[60];
        java.util.Arrays.fill(blanks, 32);
        x.answers(60, "text", 2, 60).answers(60, "fault", 2).finds(BEYOND, "put", 2, 60, 1);
        dueBytes(x, 2, 0, blanks);
        x.then("put", 2, 0, 99).then("put", 2, 59, 99).answers(2, "text", 2, 2);
        dueBytes(x, 2, 0, 32, 32);
        x.answers(60, "text", 2, 60);
        dueBytes(x, 2, 0, blanks);
        dueBytes(x, 3, 0, 32);
        x.answers(3, "count", 7).answers(59, "text", 1, 59).answers(4, "count", 7).answers(0, "count", 6);
        // a TEXT may be emptied, too
        x.answers(0, "text", 2, 0).finds(BEYOND, "put", 2, 0, 1).answers(4, "count", 7);
    }

    @Says("BAD: also n above 60;")
    static void p08_BAD_also_n_above_60() {
        Run x = Run.rich().refuses(BAD, "text", 0, 61).refuses(BAD, "text", 3, 61).refuses(BAD, "text", 2, MOST);
        for (int t : NO_TEXTS) {
            x.refuses(BAD, "text", t, 0).refuses(BAD, "text", t, 60).refuses(BAD, "text", t, 61).refuses(BAD, "text", t, -1);
        }
        x.answers(60, "text", 3, 60);
    }

    @Says("SIZE: below 0.")
    static void p08_SIZE_below_0() {
        Run x = Run.rich().finds(SIZE, "text", 0, -1).finds(SIZE, "text", 3, -1).finds(SIZE, "text", 2, LEAST);
        x.answers(0, "text", 0, 0);
    }

    @Says("Byte i of a TEXT is v, cut to a byte: what it was, and 1000 more.")
    static void p09_cut_to_a_byte() {
        int[] values = {0, 1, 127, 128, 255, 256, 257, 383, 384, -1, -128, -129, -256, -257, 65535, 65536, MOST, LEAST, 355};
        int[] bytes = {0, 1, 127, -128, -1, 0, 1, 127, -128, -1, -128, 127, 0, -1, -1, 0, -1, 0, 99};
        Run x = Run.fresh().then("text", 0, 60).then("text", 3, 1);
        int was = 32;
        for (int k = 0; k < values.length; k++) {
            x.answers(1000 + was, "put", 0, 59, values[k]);
            was = bytes[k];
        }
        dueBytes(x, 0, 57, 32, 32, 99);
        dueBytes(x, 3, 0, 32);
        x.answers(1032, "put", 0, 0, 99).answers(1099, "put", 0, 0, 32).answers(0, "asked").answers(1032, "put", 3, 0, -5);
        // 99 and 256 more is c, too
        Run.fresh().write(0, "c12345678 s19").then("put", 0, 0, 355).answers(Run.NONE, "fault", 0);
    }

    @Says("BAD;")
    static void p09_BAD() {
        Run x = Run.rich();
        for (int t : NO_TEXTS) {
            x.refuses(BAD, "put", t, 0, 1).refuses(BAD, "put", t, -1, 1);
        }
    }

    @Says("NOTHING;")
    static void p09_NOTHING() {
        Run.rich().finds(NOTHING, "put", 3, 0, 1).finds(NOTHING, "put", 3, -1, 1).finds(NOTHING, "put", 3, 60, 1);
    }

    @Says("BEYOND.")
    static void p09_BEYOND() {
        Run x = Run.rich().finds(BEYOND, "put", 2, 60, 1).finds(BEYOND, "put", 2, -1, 1).finds(BEYOND, "put", 1, 0, 1);
        x.finds(BEYOND, "put", 0, 29, 1).finds(BEYOND, "put", 0, LEAST, 1).finds(BEYOND, "put", 0, MOST, 1);
        x.answers(1000 + '7', "put", 0, 28, '7').answers(FINDING, "put", 0, 29, 1);
    }
}
