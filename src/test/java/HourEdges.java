/** Promises 20 to 25, hours and nights, each sentence at its edges. */
final class HourEdges {
    private static final int BAD = Run.BAD, FULL = Run.FULL, STATE = Run.STATE, NOTHING = Run.NOTHING;
    private static final int LEAST = Run.LEAST, MOST = Run.MOST;
    private static final int[] NO_KEPT = {LEAST, -9, -1, 3, 4, MOST};
    private static final String TWO = "c00000000 k09 s08";

    private HourEdges() {
    }

    /** So many HOURS, eight a NIGHT; behind the last HOUR of a NIGHT the next one begins. */
    private static Run gone(String tent, int hours) {
        Run x = Run.of(tent).then("turns", 36);
        for (int h = 1; h <= hours; h++) {
            x.then("hour");
            if (h % 8 == 0) {
                x.then("night");
            }
        }
        return x;
    }

    // ---- hour, night

    @Says("An HOUR goes by truly: who SLEEPS (bits).")
    static void p20_goes_by_truly() {
        Run x = Run.of(Run.alike("00000000", 5, "k09")).then("turns", 36);
        for (int h = 0; h < 8; h++) {
            x.answersTelling(h, 0, "now").answers(31, "hour").answers(h + 1, "count", 1).tells(h + 1, "sleeper", 4, 4);
            x.tells(h + 1, "sleeper", 4, 5).tells(0, "sleeper", 3, 5);
        }
        Run cold = Run.of(Run.alike("99999999", 5, "s00")).answers(0, "hour").answers(1, "count", 1).tells(0, "sleeper", 0, 4);
        cold.tells(1, "sleeper", 0, 5).answersTelling(1, 0, "now");
        // SNORER 1 keeps 0 and 2 awake, in HOUR 2 all but the STONE turn
        Run some = Run.of("c00000000 s09 n09 s09 k09").then("turns", 4);
        some.answers(0b1010, "hour").answers(0b1010, "hour").answers(0b1000, "hour").answers(0b1010, "hour");
        some.answers(0b1010, "hour").answers(0, "hour").tells(0, "sleeper", 0, 4).tells(4, "sleeper", 1, 4).tells(5, "sleeper", 3, 4);
        // in any NIGHT one SLEEPS as sleeps() tells
        for (String tent : Tents.ALL) {
            for (Run set : Tents.set(tent)) {
                set.then("night");
                for (int h = 0; h < 8; h++) {
                    set.answers(set.ask("sleeps", h), "hour");
                }
            }
        }
        // it tells nothing by asked()
        Run.rich().then("at", 2, 39).then("hour").answers(MOST, "asked");
    }

    @Says("STATE: no SLEEPERS, or HOUR 7 went by;")
    static void p20_STATE() {
        Run.fresh().refuses(STATE, "hour");
        Run x = Run.of(TWO).hours(7).then("hour").refuses(STATE, "hour").then("night").then("hour");
        x.hours(7).refuses(STATE, "hour").answers(16, "count", 1);
    }

    @Says("FULL: 40 HOURS went by in all.")
    static void p20_FULL_40_HOURS() {
        gone(TWO, 39).answers(39, "count", 1).then("hour").answers(40, "count", 1);
        gone(TWO, 40).refuses(FULL, "hour").answersTelling(0, 5, "now");
        // ten NIGHTS of four HOURS: the HOUR to come is none of the last
        Run x = Run.of(TWO);
        for (int k = 0; k < 10; k++) {
            x.hours(4);
            if (k < 9) {
                x.then("night");
            }
        }
        x.refuses(FULL, "hour").answersTelling(4, 9, "now").answers(1, "undo", 39).then("hour").refuses(FULL, "hour");
    }

    @Says("(FULL last.)")
    static void p20_FULL_last() {
        Run x = gone(TWO, 39).then("hour").answersTelling(8, 4, "now").refuses(STATE, "hour");
        x.then("night").refuses(FULL, "hour");
    }

    @Says("The NIGHT is over (HOURS to come are not): the next one begins with HOUR 0: its number.")
    static void p21_the_next_one_begins() {
        Run x = Run.of(TWO).then("vent", 1).then("bottle", 1).then("turns", 6).then("change", 0, 1).then("bags", 0, 1);
        x.answers(1, "night").answersTelling(0, 1, "now").answers(0, "count", 1).hours(3);
        x.answers(2, "night").answersTelling(0, 2, "now").answers(3, "count", 1).answers(2, "count", 2);
        // HOURS to come were not: nobody slept them, or was at the RIM in them
        x.tells(3, "sleeper", 0, 5).tells(3, "sleeper", 0, 4).tells(1, "sleeper", 1, 4);
        x.hours(8).answers(3, "night").answers(11, "count", 1).answersTelling(0, 3, "now");
        // with HOUR 0, however many HOURS the last one had: only HOUR 0 is cold, in HOUR 3 one is SORE
        Run cold = Run.of("c90000000 s07").answers(0, "hour").answers(1, "hour").then("night");
        cold.answers(0, "hour").answers(1, "hour").answers(1, "hour").answers(0, "hour").then("night").then("night");
        cold.answers(0, "hour").answers(1, "hour").answers(1, "hour").answers(0, "hour");
        // what was set stays
        x.lies(1, 0).answers(1, "count", 4).answers(6, "count", 3).answers(1, "bottle", 1).tells(8, "sleeper", 0, 2);
    }

    @Says("STATE: no SLEEPERS;")
    static void p21_STATE() {
        Run.fresh().refuses(STATE, "night");
    }

    @Says("FULL: NIGHT 9.")
    static void p21_FULL_NIGHT_9() {
        Run x = Run.of(TWO);
        for (int k = 1; k <= 9; k++) {
            x.answers(k, "night");
        }
        x.refuses(FULL, "night").then("hour").refuses(FULL, "night").hours(7).refuses(FULL, "night").answers(9, "count", 2);
        x.answersTelling(8, 9, "now").answers(8, "undo", 0).refuses(FULL, "night");
    }

    // ---- undo

    @Says("HOURS from number n on (0, 1, .. of all that went by) are undone,")
    static void p22_HOURS_from_n_on_are_undone() {
        for (int n = 0; n < 40; n++) {
            Run x = gone(TWO, 40).answers(40 - n, "undo", n).answers(n, "count", 1);
            x.isLike("undo(" + n + ")", gone(TWO, n), "");
            x.refuses(BAD, "undo", n + 1).then("hour").answers(1, "undo", n);
        }
        // bit by bit, and with other HOURS in their stead
        Run x = gone(TWO, 12).answers(1, "undo", 11).answers(4, "undo", 7).answers(7, "undo", 0).answers(0, "undo", 0);
        x.isLike("all undone", gone(TWO, 0), "");
        x = gone(TWO, 5).then("undo", 2).then("vent", 1).then("hour").then("bottle", 1).then("hour").answers(1, "undo", 3);
        x.isLike("another HOUR", gone(TWO, 2).then("vent", 1).then("hour").then("bottle", 1), "asked");
        x.answers(1, "undo", 2).isLike("ahead of another HOUR", gone(TWO, 2).then("vent", 1), "asked");
    }

    private static void dueUndone(String name, int[] first, int[] second) {
        String tent = "c12345678 k09 n18 s27";
        Run ahead = Run.of(tent).then("turns", 36);
        Run between = ahead.again().then("hour").then(name, first);
        Run x = between.again().then("hour").then(name, second);
        x.again().answers(1, "undo", 1).isLike("undo(1) of " + name, between, "asked");
        x.again().answers(2, "undo", 0).isLike("undo(0) of " + name, ahead, "asked");
        Run later = x.again().then("hour").then("undo", 2);
        later.isLike("undo(2) of " + name, x, "asked");
    }

    @Says("and what came behind the first of these (NIGHTS, PLACES, BAGS, the VENT, the BOTTLE, TURNS are as they were ahead of it;")
    static void p22_what_came_behind() {
        dueUndone("night", new int[] {}, new int[] {});
        dueUndone("change", new int[] {0, 1}, new int[] {1, 2});
        dueUndone("lots", new int[] {3}, new int[] {2147483646});
        dueUndone("bags", new int[] {0, 1}, new int[] {1, 2});
        dueUndone("vent", new int[] {1}, new int[] {0});
        dueUndone("bottle", new int[] {2}, new int[] {1});
        dueUndone("turns", new int[] {255}, new int[] {1});
        Run x = Run.of("c00000000 s09 s09").fill(0, 1, 0).then("hour").then("lie", 0).answers(1, "undo", 0).lies(0, 1);
        // all at once, through two NIGHTS
        Run ahead = Run.of("c12345678 k09 n18 s27").then("turns", 36).hours(8).then("night").then("change", 0, 2);
        x = ahead.again().then("hour").then("vent", 1).then("bags", 0, 1).then("bottle", 2).then("night").then("turns", 1);
        x.then("change", 0, 1).hours(3).answers(4, "undo", 8).isLike("undo(8)", ahead, "asked");
        // ROWS, TEXTS and kept TENTS are no part of it
        x = Run.of(TWO).then("hour").then("keep", 2).fill(3, 5, 6).write(1, "c1").answers(1, "undo", 0).holds(3, 5, 6);
        x.answers(2, "fault", 1).answers(1, "count", 8).answers(1, "on", 2).answers(1, "count", 1);
    }

    @Says("of none all stays): how many.")
    static void p22_of_none_all_stays() {
        Run.fresh().changesOnly("", "undo", 0).answers(0, "undo", 0);
        Run.of(TWO).then("change", 0, 1).then("vent", 1).then("night").changesOnly("", "undo", 0).answers(0, "undo", 0).lies(1, 0);
        Run.rich().changesOnly("", "undo", 4).answers(0, "undo", 4).answers(4, "count", 1);
        gone(TWO, 40).then("vent", 1).changesOnly("", "undo", 40).answers(0, "undo", 40);
    }

    @Says("BAD.")
    static void p22_BAD() {
        Run x = Run.rich();
        for (int n : new int[] {LEAST, -9, -1, 5, 6, 40, 41, MOST}) {
            x.refuses(BAD, "undo", n);
        }
        gone(TWO, 40).refuses(BAD, "undo", 41).refuses(BAD, "undo", -1);
        Run.fresh().refuses(BAD, "undo", 1).refuses(BAD, "undo", -1);
    }

    // ---- now

    @Says("The HOUR to come (8: none); the NIGHT by asked().")
    static void p23_the_HOUR_to_come() {
        Run x = Run.of(TWO);
        for (int night = 0; night < 5; night++) {
            for (int h = 0; h < 8; h++) {
                x.answersTelling(h, night, "now").then("hour");
            }
            x.answersTelling(8, night, "now").then("night");
        }
        x.answersTelling(0, 5, "now").then("night").then("night").then("night").then("night").answersTelling(0, 9, "now");
        x.changesOnly("asked", "now");
    }

    @Says("STATE: no SLEEPERS.")
    static void p23_STATE() {
        Run.fresh().fill(0, 7).then("at", 0, 0).refuses(STATE, "now").answers(7, "asked");
    }

    // ---- keep, on

    @Says("The TENT (all but ROWS, TEXTS) is kept in a place (0 .. 2): how many HOURS went by.")
    static void p24_kept() {
        Run x = Run.of(TWO).answers(0, "keep", 0).answers(1, "count", 8).then("hour").answers(1, "keep", 1).then("hour");
        x.answers(2, "keep", 2).answers(3, "count", 8).answers(2, "keep", 0).answers(3, "count", 8);
        x.answers(2, "on", 0).answers(1, "on", 1).answers(2, "on", 2);
        gone(TWO, 40).answers(40, "keep", 2).then("undo", 0).answers(0, "count", 1).answers(40, "on", 2).answers(40, "undo", 0);
        // kept in the same place, with fewer HOURS than ahead
        gone(TWO, 5).answers(5, "keep", 0).then("undo", 2).answers(2, "keep", 0).hours(4).answers(2, "on", 0)
                .isLike("kept anew", gone(TWO, 2).then("keep", 0), "").refuses(BAD, "undo", 3).answers(2, "undo", 0);
        // what comes later does not come to what is kept
        Run kept = Run.rich().then("keep", 0);
        Run y = kept.again().then("vent", 0).then("bottle", 0).then("turns", 255).then("change", 1, 2).then("bags", 0, 4);
        y.then("hour").then("night").then("undo", 0).then("lots", 5).then("hour").answers(4, "on", 0);
        y.isLike("on(0)", kept, "");
    }

    @Says("BAD;")
    static void p24_BAD() {
        Run x = Run.rich();
        for (int k : NO_KEPT) {
            x.refuses(BAD, "keep", k);
            Run.fresh().refuses(BAD, "keep", k);
        }
    }

    @Says("STATE: no SLEEPERS.")
    static void p24_STATE() {
        Run.fresh().refuses(STATE, "keep", 0).refuses(STATE, "keep", 2);
    }

    @Says("The TENT is as it was kept: how many HOURS went by.")
    static void p25_as_it_was_kept() {
        Run x = Run.of("c12345678 k09 n18 s27").then("turns", 36).then("keep", 0).then("vent", 1).then("hour").then("bottle", 2);
        x.then("change", 0, 2).then("hour").then("bags", 1, 2).then("night").then("keep", 2);
        Run kept = x.again();
        x.then("undo", 0).then("vent", 0).then("lots", 9).then("turns", 3).then("hour").then("night").then("night");
        x.answers(2, "on", 2).isLike("on(2)", kept, "asked");
        // as often as wanted, and HOURS go on and are undone from there
        x.then("hour").answers(3, "undo", 0).answers(2, "on", 2).isLike("on(2) again", kept, "asked");
        x.answers(0, "on", 0).answers(0, "count", 1).lies(0, 1, 2).answers(0, "count", 4).answersTelling(0, 0, "now");
        x.changesOnly("asked", "on", 0);
        // ROWS, TEXTS, what was told stay as they are
        Run y = Run.of(TWO).then("keep", 1).then("hour").fill(4, 7, 8).write(2, "c0").then("odds", 0, 0, 3).then("at", 4, 1);
        y.then("on", 1).holds(4, 7, 8).answers(2, "fault", 2).answers(8, "asked").answers(3, "upper").answers(4, "lower");
        // kept with fewer HOURS: the later ones are gone
        Run.of(TWO).hours(1).then("keep", 1).hours(5).answers(1, "on", 1).refuses(BAD, "undo", 2).answers(1, "undo", 0);
    }

    @Says("BAD;")
    static void p25_BAD() {
        Run x = Run.rich();
        for (int k : NO_KEPT) {
            x.refuses(BAD, "on", k);
        }
    }

    @Says("NOTHING.")
    static void p25_NOTHING() {
        Run.rich().finds(NOTHING, "on", 0).finds(NOTHING, "on", 2).answers(2, "on", 1);
        Run.fresh().finds(NOTHING, "on", 0).finds(NOTHING, "on", 1).finds(NOTHING, "on", 2);
        Run.of(TWO).then("keep", 1).then("tent", 0).finds(NOTHING, "on", 1);
    }
}
