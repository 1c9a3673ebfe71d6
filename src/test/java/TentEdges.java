/** Promises 10 to 19, tents and what is set in them, each sentence at its edges. */
final class TentEdges {
    private static final int BAD = Run.BAD, STATE = Run.STATE, NONE = Run.NONE;
    private static final int NOTHING = Run.NOTHING, UNLIKE = Run.UNLIKE, SIZE = Run.SIZE;
    private static final int LEAST = Run.LEAST, MOST = Run.MOST;
    private static final int[] NO_TEXTS = {LEAST, -9, -1, 4, 5, 60, MOST};
    private static final int[] NO_ROWS = {LEAST, -9, -1, 6, 7, 40, MOST};
    /** None of five SLEEPERS. */
    private static final int[] NOBODY = {LEAST, -9, -1, 5, 6, 32, MOST};

    private TentEdges() {
    }

    // ---- fault, tent

    @Says("A FAULT of a TEXT;")
    static void p10_FAULT() {
        Run x = Run.fresh().then("text", 3, 0).answers(0, "fault", 3).then("text", 3, 60).answers(60, "fault", 3);
        x.write(3, "c12345678 s19 x").answers(14, "fault", 3).write(0, "c1234567").answers(8, "fault", 0);
        x.changesOnly("", "fault", 3).changesOnly("", "fault", 0);
        Run.rich().changesOnly("", "fault", 2).changesOnly("", "fault", 1);
    }

    @Says("NONE: there is none.")
    static void p10_NONE() {
        Run x = Run.fresh().write(3, "c00000000s00").answers(NONE, "fault", 3).changesOnly("", "fault", 3);
        x.write(0, " ".repeat(18) + "c99999999 s59 n59 d59 h59 t59 " + " ".repeat(12)).answers(NONE, "fault", 0);
        x.answers(0, "count", 0);
        Run.rich().changesOnly("", "fault", 0);
    }

    @Says("BAD;")
    static void p10_BAD() {
        for (int t : NO_TEXTS) {
            Run.rich().refuses(BAD, "fault", t);
        }
    }

    @Says("NOTHING.")
    static void p10_NOTHING() {
        Run.rich().finds(NOTHING, "fault", 3).then("text", 3, 0).answers(0, "fault", 3);
    }

    @Says("A TENT by a TEXT (anew: HOUR 0 of NIGHT 0 is to come, nobody slept yet, no TURNS, the VENT shut, the BOTTLE at "
            + "PLACE 0; kept TENTS go): how many SLEEPERS.")
    static void p11_anew() {
        String tent = "c98765432 h47 k21 t30";
        Run x = Run.rich().then("keep", 0).then("keep", 2).write(0, tent).answers(3, "tent", 0);
        x.answersTelling(0, 0, "now").answers(0, "count", 1).answers(0, "count", 2).answers(0, "count", 3);
        x.answers(0, "count", 4).answers(1, "count", 5).answers(0, "count", 8).refuses(BAD, "undo", 1).lies(0, 1, 2);
        for (int i = 0; i < 3; i++) {
            x.tells(0, "sleeper", i, 4).tells(0, "sleeper", i, 5);
        }
        for (int k = 0; k < 3; k++) {
            x.finds(NOTHING, "on", k);
        }
        x.again().answers(0, "bottle", 2);
        // but for ROWS, TEXTS and what was told it is like the first TENT of an object
        Run first = Run.fresh().write(0, tent).fill(0, 4, 2, 0, 1, 3).then("row", 1, 0).then("row", 2, 40);
        first.then("lay", 2, 39, MOST).then("lay", 2, 0, -5).then("text", 1, 0).then("text", 2, 60).then("put", 2, 59, 200);
        first.then("tent", 0).isLike("the first TENT", x, "asked upper lower finding");
        // one more or one fewer, from any TEXT
        x.write(3, "c00000000 s00").answers(1, "tent", 3).answers(1, "count", 0).lies(0);
        x.write(1, "c00000000s00s00s00s00s00").answers(5, "tent", 1).lies(0, 1, 2, 3, 4).answers(5, "tent", 1);
        // the TEXT may go on otherwise: the TENT stays
        Run y = Run.of("c00000000 s09 s09").write(0, "c99999999 s00").answers(2, "count", 0).tells(10, "feels", 0, 0);
        y.then("text", 0, 0).answers(2, "count", 0).refuses(STATE, "tent", 0).tells(10, "feels", 0, 0);
    }

    @Says("BAD;")
    static void p11_BAD() {
        for (int t : NO_TEXTS) {
            Run.rich().refuses(BAD, "tent", t);
        }
    }

    @Says("NOTHING;")
    static void p11_NOTHING() {
        Run.rich().finds(NOTHING, "tent", 3);
        Run.fresh().finds(NOTHING, "tent", 0);
    }

    @Says("STATE: a FAULT.")
    static void p11_STATE_a_FAULT() {
        Run x = Run.rich().refuses(STATE, "tent", 1).refuses(STATE, "tent", 2);
        x.write(3, "c12345678 s19 n28 d37 h46 t55 k00").refuses(STATE, "tent", 3);
        x.write(3, "c12345678").refuses(STATE, "tent", 3);
        x.write(3, "c12345678 s1").refuses(STATE, "tent", 3).write(3, "c12345678 s12").answers(1, "tent", 3);
    }

    @Says("(STATE behind NOTHING.)")
    static void p11_STATE_behind_NOTHING() {
        Run.fresh().finds(NOTHING, "tent", 3).then("text", 3, 0).refuses(STATE, "tent", 3);
    }

    // ---- sleeper, mark

    @Says("Of a SLEEPER: 0 the KIND, 1 what one GIVES (a STOVE: twice), 2 the BAG, 3 the PLACE, 4 HOURS slept truly, "
            + "5 HOURS at the RIM truly, told by asked(): 1.")
    static void p12_of_a_SLEEPER() {
        Run x = Run.of("c00000000 h59 k00 s08").then("change", 0, 1).then("turns", 4).hours(3);
        // STONE 1 lies at PLACE 0, STOVE 0 in the middle; all but the STONE are WOKEN in HOUR 2
        int[][] want = {{3, 10, 9, 1, 2, 0}, {5, 0, 0, 0, 3, 3}, {0, 0, 8, 2, 2, 3}};
        for (int i = 0; i < 3; i++) {
            for (int what = 0; what <= 5; what++) {
                x.tells(want[i][what], "sleeper", i, what);
            }
        }
        x.then("bags", 0, 2).tells(8, "sleeper", 0, 2).then("change", 2, 1).tells(0, "sleeper", 2, 3);
        x.then("undo", 1).tells(1, "sleeper", 1, 4).tells(1, "sleeper", 1, 5).tells(9, "sleeper", 0, 2);
        x.changesOnly("asked", "sleeper", 0, 1);
        // all HOURS that can go by
        Run full = Run.of("c00000000 k09").then("turns", 36);
        for (int k = 0; k < 5; k++) {
            full.hours(8).then("night");
        }
        full.tells(40, "sleeper", 0, 4).tells(40, "sleeper", 0, 5);
        // truly: as it was in each HOUR, not as it is now
        Run moved = Run.of(Run.alike("00000000", 3, "s09")).then("hour").then("change", 0, 1).hours(2).then("turns", 255);
        moved.tells(1, "sleeper", 0, 5).tells(2, "sleeper", 1, 5).tells(3, "sleeper", 2, 5).tells(3, "sleeper", 0, 4);
        moved.then("hour").tells(3, "sleeper", 0, 4).tells(3, "sleeper", 1, 5);
        // what is slept aside, by lots or otherwise, is not slept truly
        Run.of("c00000000 s09").then("worth").then("slept", 0).then("lots", 1).then("night").tells(0, "sleeper", 0, 4);
    }

    @Says("BAD.")
    static void p12_BAD() {
        Run x = Run.rich();
        for (int i : NOBODY) {
            x.refuses(BAD, "sleeper", i, 0).refuses(BAD, "sleeper", i, 5);
        }
        for (int what : new int[] {LEAST, -1, 6, MOST}) {
            x.refuses(BAD, "sleeper", 0, what).refuses(BAD, "sleeper", 4, what);
        }
        Run.fresh().refuses(BAD, "sleeper", 0, 0);
        Run.of("c00000000 s09").refuses(BAD, "sleeper", 1, 0).then("sleeper", 0, 0);
    }

    @Says("What a SLEEPER that IS of a KIND tells: a SNORER (THUNDER, too) how many HEAR it,")
    static void p13_SNORER() {
        Run.of("c00000000 n09").answers(0, "mark", 0, 1);
        Run.of("c00000000 t09").answers(0, "mark", 0, 1);
        Run x = Run.of("c00000000 s09 n09 s09 t09 s09").answers(2, "mark", 1, 1).answers(3, "mark", 3, 1);
        x.changesOnly("", "mark", 1, 1).then("change", 1, 0).answers(1, "mark", 1, 1).then("change", 3, 2).answers(4, "mark", 3, 1);
        Run deaf = Run.of("c00000000 d09 n09 k09 t09 d09").answers(0, "mark", 1, 1).answers(1, "mark", 3, 1);
        deaf.then("change", 2, 4).answers(1, "mark", 3, 1);
        Run.of("c00000000 s09 s09 t09 s09 s09").answers(4, "mark", 2, 1);
        Run.of("c00000000 t09 s09 s09 s09 s09").answers(2, "mark", 0, 1);
        Run.of("c00000000 s09 s09 n09 s09 s09").answers(2, "mark", 2, 1);
    }

    @Says("a DEAF one (STONE, too) how many SNORERS are so near that it would HEAR them else,")
    static void p13_DEAF() {
        Run.of("c00000000 d09").answers(0, "mark", 0, 2);
        Run.of("c00000000 k09").answers(0, "mark", 0, 2);
        Run.of("c00000000 n09 n09 d09 n09 n09").answers(2, "mark", 2, 2);
        Run.of("c00000000 t09 t09 k09 t09 t09").answers(4, "mark", 2, 2);
        Run.of("c00000000 d09 s09 n09 t09 s09").answers(0, "mark", 0, 2);
        Run.of("c00000000 k09 s09 t09 n09 s09").answers(1, "mark", 0, 2);
        Run x = Run.of("c00000000 d09 n09 t09 k09 s09").answers(2, "mark", 0, 2).answers(1, "mark", 3, 2);
        x.changesOnly("", "mark", 0, 2);
    }

    @Says("a STOVE by how much others FEEL more by it, together,")
    static void p13_STOVE() {
        Run.of("c00000000 h59").answers(0, "mark", 0, 3);
        Run.of("c00000000 h59 s09").answers(10, "mark", 0, 3);
        Run x = Run.of("c00000000 s09 h59 s09").answers(20, "mark", 1, 3).changesOnly("", "mark", 1, 3);
        x.then("change", 0, 1).answers(10, "mark", 1, 3);
        Run.of("c00000000 s09 h09 s09").answers(0, "mark", 1, 3);
        Run.of("c00000000 h19 h29 h39").answers(2, "mark", 0, 3).answers(8, "mark", 1, 3).answers(6, "mark", 2, 3);
    }

    @Says("a THUNDER how many SNORERS (itself, too) there are,")
    static void p13_THUNDER() {
        Run.of("c00000000 t09").answers(1, "mark", 0, 4);
        Run.of("c00000000 s09 d09 h09 k09 t09").answers(1, "mark", 4, 4);
        Run x = Run.of("c00000000 n09 s09 t09 n09 t09").answers(4, "mark", 2, 4).answers(4, "mark", 4, 4);
        x.changesOnly("", "mark", 2, 4);
        Run.of(Run.alike("00000000", 5, "t09")).answers(5, "mark", 0, 4);
    }

    @Says("a STONE in how many TURNS it is not WOKEN.")
    static void p13_STONE() {
        Run x = Run.of("c99999999 n00 k00").answers(0, "mark", 1, 5).then("turns", 1).answers(1, "mark", 1, 5);
        x.then("turns", 128).answers(1, "mark", 1, 5).then("turns", 0b1010101).answers(4, "mark", 1, 5);
        x.then("turns", 255).answers(8, "mark", 1, 5).changesOnly("", "mark", 1, 5);
        // the HOURS that went by change nothing
        x.hours(8).answers(8, "mark", 1, 5);
    }

    @Says("BAD: also KIND 0;")
    static void p13_BAD_also_KIND_0() {
        Run x = Run.rich();
        for (int i = 0; i < 5; i++) {
            x.refuses(BAD, "mark", i, 0).refuses(BAD, "mark", i, 6).refuses(BAD, "mark", i, -1);
        }
        x.refuses(BAD, "mark", 0, LEAST).refuses(BAD, "mark", 0, MOST);
        for (int i : NOBODY) {
            x.refuses(BAD, "mark", i, 1).refuses(BAD, "mark", i, 0);
        }
        Run.fresh().refuses(BAD, "mark", 0, 1);
    }

    @Says("UNLIKE.")
    static void p13_UNLIKE() {
        // s n d h k
        boolean[][] is = {{}, {false, true, false, false, false}, {false, false, true, false, true},
            {false, false, false, true, false}, {false, false, false, false, false}, {false, false, false, false, true}};
        Run x = Run.rich();
        for (int kind = 1; kind <= 5; kind++) {
            for (int i = 0; i < 5; i++) {
                if (is[kind][i]) {
                    x.changesOnly("", "mark", i, kind);
                } else {
                    x.finds(UNLIKE, "mark", i, kind);
                }
            }
        }
        Run.of("c00000000 t09").finds(UNLIKE, "mark", 0, 2).finds(UNLIKE, "mark", 0, 3).finds(UNLIKE, "mark", 0, 5)
                .changesOnly("", "mark", 0, 1).changesOnly("", "mark", 0, 4);
    }

    // ---- vent, bottle, turns

    @Says("The VENT is open (1) or shut (0): what it was.")
    static void p14_VENT() {
        Run x = Run.of("c00000000 s09 s09 s09").answers(0, "vent", 0).answers(0, "vent", 1).answers(1, "vent", 1);
        x.answers(1, "count", 4).tells(7, "feels", 1, 0).answers(1, "vent", 0).answers(0, "vent", 0).answers(0, "count", 4);
        x.tells(9, "feels", 1, 0).answers(0, "vent", 1).answers(1, "vent", 0);
        x.isLike("the VENT shut again", Run.of("c00000000 s09 s09 s09"), "asked");
    }

    @Says("BAD;")
    static void p14_BAD() {
        Run x = Run.rich();
        for (int v : new int[] {LEAST, -1, 2, 256, MOST}) {
            x.refuses(BAD, "vent", v);
            Run.fresh().refuses(BAD, "vent", v);
        }
    }

    @Says("STATE: no SLEEPERS.")
    static void p14_STATE() {
        Run.fresh().refuses(STATE, "vent", 0).refuses(STATE, "vent", 1);
    }

    @Says("The BOTTLE lies in HOUR 0 at a PLACE: where it did.")
    static void p15_BOTTLE() {
        Run x = Run.of(Run.alike("00000000", 5, "s09")).answers(0, "bottle", 4).answers(4, "bottle", 4);
        x.tells(10, "feels", 4, 0).tells(10, "feels", 0, 1).answers(4, "bottle", 0).answers(0, "bottle", 3);
        x.then("hour").answers(3, "bottle", 1).answers(1, "bottle", 0).isLike("the BOTTLE at PLACE 0 again",
                Run.of(Run.alike("00000000", 5, "s09")).then("bottle", 3).then("hour").then("bottle", 0), "asked");
        Run.of("c00000000 s09").answers(0, "bottle", 0);
    }

    @Says("BAD: no such PLACE.")
    static void p15_BAD_no_such_PLACE() {
        Run x = Run.rich();
        for (int place : NOBODY) {
            x.refuses(BAD, "bottle", place);
        }
        for (int many = 1; many <= 4; many++) {
            Run.of(Run.alike("00000000", many, "s09")).refuses(BAD, "bottle", many).answers(0, "bottle", many - 1);
        }
        Run.fresh().refuses(BAD, "bottle", 0);
    }

    @Says("TURNS are HOURS of a set: which were.")
    static void p16_TURNS() {
        Run x = Run.of("c00000000 s09").answers(0, "turns", 255).answers(255, "count", 3).answers(255, "turns", 128);
        x.answers(8, "why", 0, 7).answers(0, "why", 0, 0).answers(128, "turns", 1).answers(8, "why", 0, 0);
        x.answers(1, "turns", 0).answers(0, "turns", 0).isLike("no TURNS again", Run.of("c00000000 s09"), "asked");
    }

    @Says("BAD;")
    static void p16_BAD() {
        Run x = Run.rich();
        for (int set : new int[] {LEAST, -1, 256, 257, 511, MOST}) {
            x.refuses(BAD, "turns", set);
            Run.fresh().refuses(BAD, "turns", set);
        }
    }

    @Says("STATE: no SLEEPERS.")
    static void p16_STATE() {
        Run.fresh().refuses(STATE, "turns", 0).refuses(STATE, "turns", 255);
    }

    // ---- change, bags, lie

    @Says("Two SLEEPERS change PLACES: the PLACE of the first one then.")
    static void p17_change() {
        Run x = Run.of("c00000000 s09 s18 s27 s36 s45").answers(4, "change", 0, 4).lies(4, 1, 2, 3, 0);
        x.answers(1, "change", 4, 1).lies(1, 4, 2, 3, 0).answers(2, "change", 2, 2).lies(1, 4, 2, 3, 0);
        x.changesOnly("", "change", 3, 3);
        // BAGS and what one GIVES go along
        x.tells(4, "sleeper", 0, 3).tells(9, "sleeper", 0, 2).tells(0, "sleeper", 0, 1).tells(5, "sleeper", 4, 2);
        x.answers(1, "change", 1, 4).answers(0, "change", 0, 4).lies(0, 1, 2, 3, 4);
        x.isLike("all changed back", Run.of("c00000000 s09 s18 s27 s36 s45"), "asked");
        Run.of("c00000000 s09").answers(0, "change", 0, 0);
    }

    @Says("BAD.")
    static void p17_BAD() {
        Run x = Run.rich();
        for (int i : NOBODY) {
            x.refuses(BAD, "change", i, 0).refuses(BAD, "change", 4, i).refuses(BAD, "change", i, i);
        }
        Run.of("c00000000 s09").refuses(BAD, "change", 0, 1).refuses(BAD, "change", 1, 0);
        Run.fresh().refuses(BAD, "change", 0, 0);
    }

    @Says("Two SLEEPERS change BAGS: the BAG of the first one then.")
    static void p18_bags() {
        Run x = Run.of("c00000000 s09 s10 s27").answers(0, "bags", 0, 1).tells(9, "sleeper", 1, 2).tells(0, "sleeper", 0, 2);
        x.answers(7, "bags", 1, 2).tells(9, "sleeper", 2, 2).answers(9, "bags", 2, 2).lies(0, 1, 2);
        x.changesOnly("", "bags", 0, 0).tells(0 + 1 + 3 - 2, "feels", 0, 0).tells(9 + 1 - 2, "feels", 2, 0);
        x.answers(9, "bags", 1, 2).answers(9, "bags", 0, 1);
        x.isLike("all BAGS back", Run.of("c00000000 s09 s10 s27"), "asked");
    }

    @Says("BAD.")
    static void p18_BAD() {
        Run x = Run.rich();
        for (int i : NOBODY) {
            x.refuses(BAD, "bags", i, 0).refuses(BAD, "bags", 4, i).refuses(BAD, "bags", i, i);
        }
        Run.of("c00000000 s09").refuses(BAD, "bags", 0, 1).refuses(BAD, "bags", 1, 0);
        Run.fresh().refuses(BAD, "bags", 0, 0);
    }

    @Says("They lie by an ORDER in a ROW: 1.")
    static void p19_lie() {
        Run x = Run.of("c00000000 s09 s18 s27 s36 s45").fill(5, 4, 2, 0, 1, 3).answers(1, "lie", 5).lies(4, 2, 0, 1, 3);
        x.holds(5, 4, 2, 0, 1, 3).answers(1, "lie", 5).lies(4, 2, 0, 1, 3);
        // the ROW may go on otherwise
        x.then("row", 5, 5).lies(4, 2, 0, 1, 3).fill(0, 0, 1, 2, 3, 4).answers(1, "lie", 0).lies(0, 1, 2, 3, 4);
        Run.of("c00000000 s09").fill(0, 0).answers(1, "lie", 0).lies(0);
    }

    @Says("BAD;")
    static void p19_BAD() {
        Run x = Run.rich();
        for (int r : NO_ROWS) {
            x.refuses(BAD, "lie", r);
        }
    }

    @Says("STATE: no SLEEPERS;")
    static void p19_STATE() {
        Run.fresh().refuses(STATE, "lie", 0).fill(1, 0).refuses(STATE, "lie", 1).then("row", 2, 0).refuses(STATE, "lie", 2);
    }

    @Says("NOTHING;")
    static void p19_NOTHING() {
        Run.rich().finds(NOTHING, "lie", 3).finds(NOTHING, "lie", 5);
    }

    @Says("SIZE;")
    static void p19_SIZE() {
        Run x = Run.rich().finds(SIZE, "lie", 1).finds(SIZE, "lie", 2).fill(3, 0, 1, 2, 3).finds(SIZE, "lie", 3);
        x.fill(3, 0, 1, 2, 3, 4, 5).finds(SIZE, "lie", 3).fill(3, 0, 1, 2, 3, 4).answers(1, "lie", 3);
        Run.of("c00000000 s09").then("row", 0, 0).finds(SIZE, "lie", 0).then("row", 0, 2).finds(SIZE, "lie", 0);
    }

    @Says("UNLIKE: not each once.")
    static void p19_UNLIKE_not_each_once() {
        Run x = Run.rich();
        for (int last : new int[] {LEAST, -9, -1, 0, 1, 2, 3, 5, 31, 32, 36, MOST}) {
            x.again().fill(3, 0, 1, 2, 3, last).finds(UNLIKE, "lie", 3);
            x.again().fill(3, last, 3, 2, 1, 0).finds(UNLIKE, "lie", 3);
        }
        Run.of("c00000000 s09").fill(0, 1).finds(UNLIKE, "lie", 0).fill(0, -1).finds(UNLIKE, "lie", 0);
    }

    @Says("(In this order.)")
    static void p19_in_this_order() {
        Run.fresh().refuses(BAD, "lie", 6).refuses(STATE, "lie", 0);
        Run.rich().refuses(BAD, "lie", -1).fill(3, 9, 9).finds(SIZE, "lie", 3).fill(3, 9, 9, 9, 9, 9).finds(UNLIKE, "lie", 3);
    }
}
