/** Promises 26 to 32, how one feels, each sentence at its edges. */
final class FeelEdges {
    private static final int BAD = Run.BAD, STATE = Run.STATE, LEAST = Run.LEAST, MOST = Run.MOST;
    private static final int COLD = 1, HEARS = 2, SORE = 4, WOKEN = 8;
    /** None of five SLEEPERS. */
    private static final int[] NOBODY = {LEAST, -9, -1, 5, 6, 32, MOST};
    private static final int[] NO_HOURS = {LEAST, -9, -1, 8, 9, MOST};

    private FeelEdges() {
    }

    @Says("What a SLEEPER FEELS in an HOUR, told by asked() (perhaps below 0): 1.")
    static void p26_FEELS() {
        // the least and the most that one can FEEL
        Run.of("c99999999 s00 s00").tells(0 - 9 - 2 - 3, "feels", 0, 7).tells(0 + 3 - 9 - 2 - 3, "feels", 1, 7);
        Run.of("c00000000 h50 s09 h50").then("bottle", 1).tells(9 + 20 + 3, "feels", 1, 0).tells(9 + 20, "feels", 1, 1);
        Run x = Run.of("c10000000 s00").tells(0, "feels", 0, 0).tells(1, "feels", 0, 1).tells(-2, "feels", 0, 7);
        x.hours(8).tells(0, "feels", 0, 0).tells(-2, "feels", 0, 7).changesOnly("asked", "feels", 0, 3);
    }

    @Says("BAD.")
    static void p26_BAD() {
        Run x = Run.rich();
        for (int i : NOBODY) {
            x.refuses(BAD, "feels", i, 0).refuses(BAD, "feels", i, 7);
        }
        for (int h : NO_HOURS) {
            x.refuses(BAD, "feels", 0, h).refuses(BAD, "feels", 4, h);
        }
        Run.fresh().refuses(BAD, "feels", 0, 0);
        Run.of("c00000000 s09").refuses(BAD, "feels", 1, 0).then("feels", 0, 7);
    }

    @Says("Why one does not SLEEP in an HOUR: 1 COLD (FEELS below 0), 2 HEARS, 4 SORE, 8 WOKEN, together; 0: one SLEEPS.")
    static void p27_why() {
        // by PLACES: warm, COLD and HEARS, warm, HEARS, COLD
        Run x = Run.of("c55555555 s09 s00 n09 s09 s00");
        int[] always = {0, COLD + HEARS, 0, HEARS, COLD};
        for (int i = 0; i < 5; i++) {
            x.answers(always[i], "why", i, 0).answers(always[i], "why", i, 2).answers(always[i] + SORE, "why", i, 3);
        }
        x.then("turns", 0b1000);
        for (int i = 0; i < 5; i++) {
            x.answers(always[i], "why", i, 2).answers(always[i] + WOKEN, "why", i, 3);
        }
        x.changesOnly("", "why", 1, 3);
        // nobody is SORE and WOKEN in one HOUR
        for (int set = 0; set < 256; set++) {
            Run y = Run.of("c00000000 s09").then("turns", set);
            for (int h = 0; h < 8; h++) {
                long why = y.ask("why", 0, h);
                Due.holds("turns(" + set + "), why(0, " + h + ") is " + why, why == 0 || why == SORE || why == WOKEN);
                Due.equal("WOKEN in a TURN", why & WOKEN, (set >> h & 1) == 1 ? WOKEN : 0);
            }
        }
        Run.of("c00000000 s00 s02 s03").answers(0, "why", 1, 0).answers(COLD, "why", 0, 1).answers(0, "why", 2, 0);
    }

    @Says("BAD.")
    static void p27_BAD() {
        Run x = Run.rich();
        for (int i : NOBODY) {
            x.refuses(BAD, "why", i, 0).refuses(BAD, "why", i, 7);
        }
        for (int h : NO_HOURS) {
            x.refuses(BAD, "why", 0, h).refuses(BAD, "why", 4, h);
        }
        Run.fresh().refuses(BAD, "why", 0, 0);
    }

    @Says("Who SLEEPS in an HOUR (bits); who is COLD by asked().")
    static void p28_sleeps() {
        Run.of(Run.alike("00000000", 5, "s09")).answersTelling(31, 0, "sleeps", 0).answersTelling(0, 0, "sleeps", 7);
        Run.of(Run.alike("99999999", 5, "s00")).answersTelling(0, 31, "sleeps", 0).answersTelling(0, 31, "sleeps", 7);
        Run x = Run.of("c55555555 s09 s00 n09 s09 s00").answersTelling(0b00101, 0b10010, "sleeps", 0);
        // who HEARS or is SORE may be COLD, too
        x.answersTelling(0, 0b10010, "sleeps", 3).changesOnly("asked", "sleeps", 0);
        // without SLEEPERS nobody does, and nobody is
        Run.fresh().fill(0, 7).then("at", 0, 0).answersTelling(0, 0, "sleeps", 0).answersTelling(0, 0, "sleeps", 7);
    }

    @Says("BAD.")
    static void p28_BAD() {
        Run x = Run.rich();
        for (int h : NO_HOURS) {
            x.refuses(BAD, "sleeps", h);
            Run.fresh().fill(0, 7).then("at", 0, 0).refuses(BAD, "sleeps", h);
        }
    }

    @Says("How many HOURS of a NIGHT a SLEEPER SLEEPS.")
    static void p29_slept() {
        Run.of("c00000000 k09").then("turns", 36).answers(8, "slept", 0).hours(8).answers(8, "slept", 0).then("turns", 0)
                .answers(3, "slept", 0);
        Run.of("c99999999 s00").answers(0, "slept", 0);
        Run.of("c00000000 s09").then("turns", 36).answers(6, "slept", 0).then("turns", 255).answers(0, "slept", 0);
        Run x = Run.of("c99999990 s00 s00 s06").then("turns", 36).answers(0, "slept", 0).answers(1, "slept", 1);
        // HOUR 7 alone is not cold: the BOTTLE is at PLACE 1 then, PLACE 2 is 2 and 3 colder
        x.answers(1, "slept", 2).changesOnly("", "slept", 1);
    }

    @Says("BAD.")
    static void p29_BAD() {
        Run x = Run.rich();
        for (int i : NOBODY) {
            x.refuses(BAD, "slept", i);
        }
        Run.fresh().refuses(BAD, "slept", 0);
        Run.of("c00000000 s09").refuses(BAD, "slept", 1);
    }

    @Says("Who FEELS least in any HOUR (the first); in which HOUR (the first) by asked().")
    static void p30_coldest() {
        Run.of("c00000000 s09").answersTelling(0, 6, "coldest").then("vent", 1).answersTelling(0, 0, "coldest");
        Run.of("c00000009 s09 s09 s09 s09 s00").answersTelling(4, 7, "coldest");
        Run.of("c90000000 s09 s00 s09").answersTelling(1, 0, "coldest");
        // 0 and 2 FEEL alike without the BOTTLE: 0 is the first, in HOUR 1 it is without the first time
        Run.of("c00000000 s05 s09 s05").then("vent", 1).answersTelling(0, 1, "coldest");
        Run.of("c00000000 s05 s09 s05").then("vent", 1).then("bottle", 2).answersTelling(0, 0, "coldest");
        Run.of("c00000000 s05 s09 s04").then("vent", 1).answersTelling(2, 0, "coldest");
        // where they lie does not make one the first
        Run.of("c00000000 s05 s09 s05").then("vent", 1).then("change", 0, 2).answersTelling(0, 0, "coldest");
        // above 0, too
        Run x = Run.of("c00000000 h59 h59").answersTelling(0, 7, "coldest").changesOnly("asked", "coldest");
        x.tells(9 + 10 - 2 - 3, "feels", 0, 7);
    }

    @Says("STATE: no SLEEPERS.")
    static void p30_STATE() {
        Run.fresh().fill(0, 7).then("at", 0, 0).refuses(STATE, "coldest");
    }

    private static int sleptByOthers(Run x, int one) {
        int sum = 0;
        for (int i = 0; i < x.ask("count", 0); i++) {
            sum += i == one ? 0 : (int) x.ask("slept", i);
        }
        return sum;
    }

    @Says("How many HOURS more all others SLEEP in a NIGHT, as one is beside them, than if one GAVE 0 and SNORED not, "
            + "told by asked() (perhaps below 0): 1.")
    static void p31_good() {
        Run.of("c00000000 t59").tells(0, "good", 0);
        Run.of("c00000000 s09 s09 t09 s09 s09").then("turns", 36).tells(-24, "good", 2);
        Run.of("c00000000 s09 s09 n09 s09 s09").then("turns", 36).tells(-12, "good", 2);
        Run.of("c00000000 d09 k09 t09 d09 k09").then("turns", 36).tells(0, "good", 2);
        // in HOURS 0 to 2 those at the RIM SLEEP by the STOVE, without it in one HOUR each, with the BOTTLE
        Run.of("c00000000 s00 h50 s00").tells(6 - 2, "good", 1).tells(0, "good", 0);
        // it snores, but it warms: the DEAF one SLEEPS 3 and not 1, the last one 0 and not 1
        Run.of("c00000000 d00 n50 s00").tells(3 - 2, "good", 1);
        // another SNORER is heard all the same
        Run.of("c00000000 n09 s09 n09").tells(0, "good", 0).tells(0, "good", 2).tells(0, "good", 1);
        // one's own sleep does not count: a STONE is not WOKEN, a DEAF one HEARS none
        Run.of("c00000000 s09 k09 s09").then("turns", 36).tells(0, "good", 1);
        Run.of("c00000000 n09 d09 s09").tells(0, "good", 1);
        // nor who lies too far off
        Run x = Run.of("c77777777 s50 d09 s07 s09 h50").tells(0, "good", 2).changesOnly("asked", "good", 4);
        x.changesOnly("asked", "good", 0);
        Run.of("c00000000 s00 s09 s09 s09 t59").tells(4 - 10, "good", 4).then("change", 4, 1).tells(3 - 10, "good", 4);
        // in each TENT as it is: one of the same BAG who GIVES 0 and SNORES not lies there in one's stead
        for (String tent : Tents.ALL) {
            for (int i = 0; i < Tents.many(tent); i++) {
                Run[] with = Tents.set(tent);
                Run[] without = Tents.set(Tents.with(tent, i, "s0" + Tents.item(tent, i).charAt(2)));
                for (int k = 0; k < with.length; k++) {
                    with[k].tells(sleptByOthers(with[k].again(), i) - sleptByOthers(without[k], i), "good", i);
                }
            }
        }
    }

    @Says("BAD.")
    static void p31_BAD() {
        Run x = Run.rich();
        for (int i : NOBODY) {
            x.refuses(BAD, "good", i);
        }
        Run.fresh().refuses(BAD, "good", 0);
        Run.of("c00000000 s09").refuses(BAD, "good", 1);
    }

    @Says("WORTH of how they lie; how much the one SLEEPS who SLEEPS least by asked().")
    static void p32_worth() {
        Run.of(Run.alike("00000000", 5, "k09")).then("turns", 36).answersTelling(40, 8, "worth");
        Run.of(Run.alike("99999999", 5, "s00")).answersTelling(0, 0, "worth");
        Run x = Run.of("c00000000 s09 n09 s09 k09").then("turns", 36).answersTelling(6 + 8, 0, "worth");
        x.then("change", 1, 0).answersTelling(6 + 6 + 8, 0, "worth").then("change", 0, 3).answersTelling(6 + 6 + 6 + 8, 6, "worth");
        x.changesOnly("asked", "worth");
        Run.of("c00000000 s09").answersTelling(3, 3, "worth");
    }

    @Says("STATE: no SLEEPERS.")
    static void p32_STATE() {
        Run.fresh().fill(0, 7).then("at", 0, 0).refuses(STATE, "worth");
    }
}
