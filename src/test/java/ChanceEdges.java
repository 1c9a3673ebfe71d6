import java.math.BigInteger;
import java.util.ArrayList;
import java.util.List;

/** Promises 40 to 44, who goes out, whose the snore is, chances and lots, each sentence at its edges. */
final class ChanceEdges {
    private static final int BAD = Run.BAD, STATE = Run.STATE, NONE = Run.NONE, LEAST = Run.LEAST, MOST = Run.MOST;
    private static final int NOTHING = Run.NOTHING, UNLIKE = Run.UNLIKE, SIZE = Run.SIZE;
    private static final int[] NO_ROWS = {LEAST, -9, -1, 6, 7, 40, MOST};
    /** None of five SLEEPERS. */
    private static final int[] NOBODY = {LEAST, -9, -1, 5, 6, 32, MOST};
    private static final int ALL = 0b11111;

    private ChanceEdges() {
    }

    // ---- out

    @Says("Over how many one climbs who goes out (who lie nearer to the DOOR); who of these is no STONE by asked() (bits).")
    static void p40_out() {
        Run.of("c00000000 k09").answersTelling(0, 0, "out", 0);
        Run x = Run.of("c00000000 k09 s09 k09 d09 n09").answersTelling(0, 0, "out", 0).answersTelling(1, 0, "out", 1);
        x.answersTelling(2, 0b00010, "out", 2).answersTelling(3, 0b00010, "out", 3).answersTelling(4, 0b01010, "out", 4);
        x.then("change", 0, 4).answersTelling(4, 0b11010, "out", 0).answersTelling(0, 0, "out", 4);
        x.answersTelling(3, 0b10010, "out", 3).changesOnly("asked", "out", 0);
        Run.of(Run.alike("99999999", 5, "k00")).answersTelling(4, 0, "out", 4);
        Run.of(Run.alike("99999999", 5, "d00")).answersTelling(4, 0b1111, "out", 4);
    }

    @Says("BAD.")
    static void p40_BAD() {
        for (int i : NOBODY) {
            Run.rich().refuses(BAD, "out", i);
        }
        Run.fresh().refuses(BAD, "out", 0);
        Run.of("c00000000 s09").refuses(BAD, "out", 1);
    }

    // ---- whose

    private static void dueWhose(String tent, int snorers, int thunders, int... heard) {
        Run.of(tent).fill(0, heard).answersTelling(snorers, thunders, "whose", 0).holds(0, heard);
    }

    @Says("By a ROW, one for each PLACE: 1 (a snore was heard there), 0 (not), NONE (not known): who alone can have SNORED like a "
            + "SNORER (bits; heard just beside, by all but those who HEAR none); who like a THUNDER by asked().")
    static void p41_whose() {
        String five = Run.alike("00000000", 5, "s09");
        dueWhose(five, 0b00001, 0, 0, 1, 0, 0, 0);
        dueWhose(five, 0b00010, 0, 1, 0, 1, 0, 0);
        dueWhose(five, 0b00100, 0, 0, 1, 0, 1, 0);
        dueWhose(five, 0b01000, 0, 0, 0, 1, 0, 1);
        dueWhose(five, 0b10000, 0, 0, 0, 0, 1, 0);
        dueWhose(five, 0, 0b00001, 0, 1, 1, 0, 0);
        dueWhose(five, 0, 0b00010, 1, 0, 1, 1, 0);
        dueWhose(five, 0, 0b00100, 1, 1, 0, 1, 1);
        dueWhose(five, 0, 0b01000, 0, 1, 1, 0, 1);
        dueWhose(five, 0, 0b10000, 0, 0, 1, 1, 0);
        // nothing known, nothing heard, all heard: nobody HEARS oneself
        dueWhose(five, ALL, ALL, NONE, NONE, NONE, NONE, NONE);
        dueWhose(five, 0, 0, 0, 0, 0, 0, 0);
        dueWhose(five, 0, 0, 1, 1, 1, 1, 1);
        dueWhose(five, 0b00101, 0b01101, NONE, 1, NONE, NONE, NONE);
        dueWhose(five, 0b11010, 0b10010, NONE, 0, NONE, NONE, NONE);
        dueWhose(five, 0b11101, 0b11001, 0, NONE, NONE, NONE, NONE);
        dueWhose("c00000000 s09", 1, 1, 0);
        dueWhose("c00000000 s09", 1, 1, NONE);
        dueWhose("c00000000 s09", 0, 0, 1);
        dueWhose("c00000000 s09 s09", 0b10, 0b10, 1, 0);
        dueWhose("c00000000 s09 s09", 0b01, 0b01, 0, 1);
        // those who HEAR none do not hear it; of which KIND one is does not keep one from having SNORED
        dueWhose("c00000000 d09 k09 t09 h09 n09", 0b00001, 0, 0, 0, 0, 0, 0);
        dueWhose("c00000000 d09 k09 t09 h09 n09", 0b01000, 0b01000, 0, 0, 1, 0, 1);
        dueWhose(Run.alike("00000000", 5, "k09"), ALL, ALL, 0, 0, 0, 0, 0);
        dueWhose(Run.alike("00000000", 5, "k09"), 0, 0, 0, 0, 0, 0, 1);
        // by PLACES, as they lie: DEAF 0 lies at PLACE 2, STONE 3 at PLACE 0
        Run y = Run.of("c00000000 d09 s09 s09 k09 s09").fill(1, 3, 1, 0, 4, 2).then("lie", 1);
        y.fill(0, 0, 0, 0, 1, 0).answersTelling(0b00100, 0b00110, "whose", 0);
        Run x = Run.of(five).then("change", 0, 4).fill(0, 0, 1, 0, 0, 0).answersTelling(0b10000, 0, "whose", 0);
        x.changesOnly("asked", "whose", 0);
    }

    @Says("BAD;")
    static void p41_BAD() {
        for (int r : NO_ROWS) {
            Run.rich().refuses(BAD, "whose", r);
            Run.fresh().refuses(BAD, "whose", r);
        }
    }

    @Says("STATE: no SLEEPERS;")
    static void p41_STATE() {
        Run.fresh().refuses(STATE, "whose", 0).fill(1, 0).refuses(STATE, "whose", 1).then("row", 2, 0).refuses(STATE, "whose", 2);
    }

    @Says("NOTHING;")
    static void p41_NOTHING() {
        Run.rich().finds(NOTHING, "whose", 3).finds(NOTHING, "whose", 5);
    }

    @Says("SIZE;")
    static void p41_SIZE() {
        Run x = Run.rich().finds(SIZE, "whose", 1).finds(SIZE, "whose", 2).then("row", 3, 4).finds(SIZE, "whose", 3);
        x.then("row", 3, 6).finds(SIZE, "whose", 3).then("row", 3, 5).then("whose", 3);
        Run.of("c00000000 s09").then("row", 0, 0).finds(SIZE, "whose", 0).then("row", 0, 2).finds(SIZE, "whose", 0);
    }

    @Says("UNLIKE.")
    static void p41_UNLIKE() {
        for (int v : new int[] {LEAST, -10, -8, -2, -1, 2, 3, 9, 256, MOST}) {
            Run.rich().fill(3, v, 0, 0, 0, 0).finds(UNLIKE, "whose", 3);
            Run.rich().fill(3, NONE, 0, 1, 0, v).finds(UNLIKE, "whose", 3);
        }
        Run.rich().fill(3, NONE, 0, 1, 0, NONE).then("whose", 3);
    }

    @Says("(In this order.)")
    static void p41_in_this_order() {
        Run.fresh().refuses(BAD, "whose", 6).refuses(STATE, "whose", 0);
        Run.rich().fill(3, 9, 9).finds(SIZE, "whose", 3).fill(3, 9, 9, 9, 9, 9).finds(UNLIKE, "whose", 3);
    }

    // ---- kinds

    private static void dueKinds(String tent, int i) {
        Run[] runs = Tents.set(tent);
        long[][] worth = new long[runs.length][6];
        for (int kind = 0; kind < 6; kind++) {
            Run[] others = Tents.set(Tents.with(tent, i, Tents.LETTERS.charAt(kind) + Tents.item(tent, i).substring(1)));
            for (int k = 0; k < runs.length; k++) {
                worth[k][kind] = others[k].ask("worth");
            }
        }
        for (int k = 0; k < runs.length; k++) {
            for (long v : worth[k]) {
                int want = 0;
                for (int kind = 0; kind < 6; kind++) {
                    want |= worth[k][kind] == v ? 1 << kind : 0;
                }
                runs[k].answers(want, "kinds", i, (int) v);
            }
        }
    }

    @Says("Of which KINDS (bits) one can be so that an ORDER has WORTH v (as they lie, all else as it is).")
    static void p42_kinds() {
        Run.of("c99999999 s00").answers(0b111111, "kinds", 0, 0).answers(0, "kinds", 0, 1);
        Run x = Run.of("c00000000 s09 s09 s09").answers(0b101101, "kinds", 0, 9).answers(0b000010, "kinds", 0, 6);
        x.answers(0b010000, "kinds", 0, 3).answers(0b010010, "kinds", 1, 3).answers(0, "kinds", 0, 0);
        // all that can be slept, and what nobody can
        Run k = Run.of(Run.alike("00000000", 5, "k09")).then("turns", 36).answers(0b100000, "kinds", 2, 40);
        k.answers(0b011111, "kinds", 2, 38).answers(0, "kinds", 2, 41).answers(0, "kinds", 2, 39).answers(0, "kinds", 2, -1);
        k.answers(0, "kinds", 2, LEAST).answers(0, "kinds", 2, MOST).answers(0, "kinds", 4, 0);
        // what one GIVES stays: a STOVE would GIVE it twice, a STOVE that is one would GIVE half of what it does
        Run.of("c05555555 s05 s10 s05").answers(0b001000, "kinds", 1, 6).answers(0b100101, "kinds", 1, 4);
        Run.of("c05555555 s05 h10 s05").answers(0b001000, "kinds", 1, 6).answers(0b100101, "kinds", 1, 4);
        // as they lie
        x.then("change", 0, 1).answers(0b010010, "kinds", 0, 3).answers(0, "kinds", 0, 6).changesOnly("", "kinds", 0, 3);
        Run.rich().changesOnly("", "kinds", 0, 9);
        // all else as it is, in each TENT: one of another letter lies there in one's stead
        for (String tent : Tents.ALL) {
            for (int i = 0; i < Tents.many(tent); i++) {
                dueKinds(tent, i);
            }
        }
    }

    @Says("BAD.")
    static void p42_BAD() {
        for (int i : NOBODY) {
            Run.rich().refuses(BAD, "kinds", i, 0).refuses(BAD, "kinds", i, 9);
        }
        Run.fresh().refuses(BAD, "kinds", 0, 0);
        Run.of("c00000000 s09").refuses(BAD, "kinds", 1, 3);
    }

    // ---- odds

    @Says("Chances that one SLEEPS a whole HOUR, if each goes out in it by p (0 .. 12) of 12, each by itself (who goes out does not "
            + "SLEEP it, nor who is climbed over, but a STONE): 1.")
    static void p43_odds() {
        Run x = Run.of("c00000000 s09 s09 k09 s09 s09");
        x.chances(1, 1, 0, 0, 0).chances(0, 1, 0, 0, 12).chances(161051, 248832, 0, 0, 1).chances(1, 248832, 0, 0, 11);
        x.chances(14641, 20736, 1, 0, 1).chances(121, 144, 3, 0, 1).chances(11, 12, 4, 0, 1).chances(1, 12, 4, 0, 11);
        // a STONE must only stay in itself
        x.chances(11, 12, 2, 0, 1).chances(0, 1, 2, 0, 12).chances(1, 1, 2, 0, 0).chances(1, 2, 2, 0, 6);
        // who does not SLEEP in the HOUR anyway
        x.chances(0, 1, 0, 3, 0).chances(0, 1, 2, 7, 0);
        x.then("turns", 1).chances(0, 1, 0, 0, 0).chances(1, 1, 2, 0, 0).chances(1, 1, 0, 1, 0).chances(1, 1, 4, 2, 0);
        // by PLACES: who lies behind climbs over
        x.then("change", 0, 4).chances(3, 4, 0, 1, 3).chances(243, 1024, 4, 1, 3).changesOnly("asked upper lower", "odds", 0, 1, 3);
        x.answers(1, "odds", 0, 1, 3).changesOnly("", "odds", 0, 1, 3);
        Run.of("c00000000 n09 s09").chances(0, 1, 1, 0, 0).chances(1, 4, 0, 0, 6);
        Run.of("c99999999 s00").chances(0, 1, 0, 7, 0);
        Run.of("c00000000 s09").chances(1, 2, 0, 2, 6);
    }

    @Says("BAD.")
    static void p43_BAD() {
        Run x = Run.rich();
        for (int i : NOBODY) {
            x.refuses(BAD, "odds", i, 0, 0).refuses(BAD, "odds", i, 7, 12);
        }
        for (int h : new int[] {LEAST, -1, 8, MOST}) {
            x.refuses(BAD, "odds", 0, h, 0).refuses(BAD, "odds", 4, h, 12);
        }
        for (int p : new int[] {LEAST, -1, 13, MOST}) {
            x.refuses(BAD, "odds", 0, 0, p).refuses(BAD, "odds", 4, 7, p);
        }
        Run.fresh().refuses(BAD, "odds", 0, 0, 0);
    }

    // ---- lots

    static int[] orderByLots(int many, int seed) {
        List<Integer> left = new ArrayList<>();
        for (int i = 0; i < many; i++) {
            left.add(i);
        }
        BigInteger number = BigInteger.valueOf(seed);
        int[] order = new int[many];
        for (int p = 0; p < many; p++) {
            number = number.multiply(BigInteger.valueOf(48271)).mod(BigInteger.valueOf(2147483647));
            order[p] = left.remove(number.mod(BigInteger.valueOf(left.size())).intValueExact());
        }
        return order;
    }

    @Says("They lie by LOTS of a seed: for PLACES 0, 1, .. a number: of those who do not lie yet the one at it modulo how many they "
            + "are (by numbers): the WORTH then.")
    static void p44_lots() {
        // 48271 % 3 = 1; 182605794 % 2 = 0: they lie 1 0 2, the SNORER in the middle
        Run.of("c00000000 n09 s09 s09").answers(3, "lots", 1).lies(1, 0, 2);
        // 2147435376 % 3 = 0; 1964877853 % 2 = 1: they lie 0 2 1
        Run.of("c00000000 n09 s09 s09").answers(6, "lots", 2147483646).lies(0, 2, 1);
        Run.of("c00000000 s09").answers(3, "lots", 2147483646).lies(0);
        for (int many = 1; many <= 5; many++) {
            for (int seed : new int[] {1, 2, 3, 7, 44488, 44489, 65536, 1000000007, 2147483645, 2147483646}) {
                int[] order = orderByLots(many, seed);
                Run x = Run.of("c12345678" + "s29n38d47h56k05".substring(0, 3 * many)).then("lots", 5);
                Run y = x.again().fill(0, order).then("lie", 0).then("tear", 0);
                x.answers(y.again().ask("worth"), "lots", seed).lies(order).isLike("lots(" + seed + ")", y, "asked");
                // how they lay ahead changes nothing
                x.answers(y.again().ask("worth"), "lots", seed).lies(order);
            }
        }
        // nothing but PLACES changes, however the TENT is set
        for (String tent : Tents.ALL) {
            for (Run x : Tents.set(tent)) {
                Run y = x.again().fill(0, orderByLots(Tents.many(tent), 4711)).then("lie", 0).then("tear", 0);
                x.answers(y.again().ask("worth"), "lots", 4711).isLike("lots(4711)", y, "asked");
            }
        }
    }

    @Says("BAD;")
    static void p44_BAD() {
        for (int seed : new int[] {LEAST, -2147483647, -9, -1, 0, 2147483647}) {
            Run.rich().refuses(BAD, "lots", seed);
            Run.fresh().refuses(BAD, "lots", seed);
        }
    }

    @Says("STATE: no SLEEPERS.")
    static void p44_STATE() {
        Run.fresh().refuses(STATE, "lots", 1).refuses(STATE, "lots", 2147483646);
    }
}
