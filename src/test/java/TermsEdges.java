import java.lang.reflect.Method;
import java.math.BigInteger;
import java.util.Set;

/** What the document says ahead of the promises, each sentence at its edges. */
final class TermsEdges {
    private static final int BAD = Run.BAD, FULL = Run.FULL, FINDING = Run.FINDING, STATE = Run.STATE, NONE = Run.NONE;
    private static final int NOTHING = Run.NOTHING, BEYOND = Run.BEYOND, UNLIKE = Run.UNLIKE, NOUGHT = Run.NOUGHT;
    private static final int SIZE = Run.SIZE, LEAST = Run.LEAST, MOST = Run.MOST;
    private static final int COLD = 1, HEARS = 2, SORE = 4, WOKEN = 8;
    private static final String LETTERS = "sndhtk";
    /** Numbers at and beside each limit of the document. */
    private static final int[] ONE = {LEAST, -9, -1, 0, 1, 2, 3, 4, 5, 6, 7, 8, 9, 12, 13, 40, 41, 60, 61, 255, 256, MOST - 1, MOST};
    private static final int[] TWO = {LEAST, -1, 0, 2, 3, 4, 5, 6, 7, 8, 41, 61, 120, MOST};
    private static final int[] MORE = {-1, 0, 5, 6, MOST};
    /** Calls that may answer any number. */
    private static final Set<String> FREE = Set.of("asked", "upper", "lower", "digest");

    private TermsEdges() {
    }

    // ---- how long an object is used

    @Says("An object is used for at most 512 calls after it has been made; what later calls answer is free.")
    static void use_at_most_512_calls() {
        Run x = Run.of("c00000000 k09").then("turns", 36);
        for (int k = 0; k < 5; k++) {
            x.hours(8).then("night");
        }
        while (x.size() < 511) {
            x.then("worth");
        }
        x.answers(40, "undo", 0);
        Due.equal("calls so far", x.size(), 512);
        x.goOn();
        for (int k = 0; k < 2000; k++) {
            for (String name : Run.CALLS.keySet()) {
                if (k % 50 == 0 || Run.CALLS.get(name).getParameterCount() == 0) {
                    x.ask(name, new int[Run.CALLS.get(name).getParameterCount()]);
                }
            }
        }
    }

    // ---- what is refused

    @Says("Refused is, the first of these that fits, in this order:")
    static void terms_refused_in_this_order() {
        Run none = Run.fresh();
        none.refuses(BAD, "vent", 2).refuses(BAD, "turns", 256).refuses(BAD, "keep", 3).refuses(BAD, "lots", 0);
        none.refuses(BAD, "lie", 6).refuses(BAD, "whose", 6).refuses(BAD, "best", 6).refuses(BAD, "fair", 6);
        none.refuses(BAD, "thin", 6).refuses(BAD, "nights", 4, 0).refuses(BAD, "nights", 1, 6);
        none.refuses(BAD, "nth", -1, 0).refuses(BAD, "nth", 0, 6);
        none.refuses(STATE, "lie", 0).refuses(STATE, "whose", 0).refuses(STATE, "nth", 1, 0);
        none.refuses(BAD, "row", 6, -1).refuses(BAD, "text", 4, -1).refuses(BAD, "copy", 6, 0, 0, 0, -1);
        none.refuses(BAD, "copy", 0, 0, 6, 0, -1).refuses(BAD, "at", 6, -1).refuses(BAD, "put", 4, -1, 0);
        Run.rich().refuses(BAD, "mark", 0, 6).refuses(BAD, "mark", 5, 1).refuses(BAD, "nth", 120, 6);
    }

    @Says("BAD -1 (a number that is none, or not as told)")
    static void terms_BAD() {
        Run.rich().refuses(-1, "row", 6, 3).refuses(-1, "row", 3, 41).refuses(-1, "sleeper", 5, 0).refuses(-1, "count", 9);
    }

    @Says("FULL -2")
    static void terms_FULL() {
        Run x = Run.of("c00000000 s09");
        for (int k = 0; k < 9; k++) {
            x.then("night");
        }
        x.refuses(-2, "night");
    }

    @Says("STATE -4 (not now)")
    static void terms_STATE() {
        Run x = Run.fresh().refuses(-4, "hour").refuses(-4, "vent", 0);
        x.write(0, "c00000000 s09").then("tent", 0).answers(0, "vent", 0).hours(8).refuses(-4, "hour");
        x.then("night").answers(1, "hour");
    }

    @Says("SPENT -6 (more than told)")
    static void terms_SPENT_is_named_by_no_call() {
        Due.equal("SPENT", TentMiddle.SPENT, -6);
        Run[] runs = {Run.fresh(), Run.rich()};
        for (Run run : runs) {
            eachCall((name, arguments) -> {
                long answer = run.again().ask(name, arguments);
                boolean isTold = answer >= 0 || answer == BAD || answer == FULL || answer == FINDING || answer == STATE
                        || answer == NONE && name.equals("fault");
                Due.holds(name + " answered " + answer, isTold || FREE.contains(name));
            });
        }
    }

    @Says("FINDING -3 (finding() tells which), unless a call says so otherwise.")
    static void terms_FINDING() {
        Run x = Run.fresh();
        x.answers(-3, "tear", 0).answers(1, "finding").answers(-3, "row", 0, -1).answers(5, "finding");
        // hour() says FULL last, tent() STATE behind NOTHING
        Run.of("c00000000 s09").hours(8).then("night").hours(8).then("night").hours(8).then("night").hours(8)
                .then("night").hours(8).refuses(STATE, "hour").then("night").refuses(FULL, "hour");
        Run.fresh().finds(NOTHING, "tent", 0);
    }

    @Says("NONE -9.")
    static void terms_NONE() {
        Run.of("c00000000 s09").answers(-9, "fault", 0).fill(0, -9).answersTelling(1, 1, "whose", 0);
        Due.equal("NONE", TentMiddle.NONE, -9);
    }

    @Says("What is refused changes nothing but finding(), findings().")
    static void terms_refused_changes_nothing_else() {
        int[] refused = new int[1];
        Run[] runs = {Run.fresh(), Run.rich()};
        for (Run run : runs) {
            eachCall((name, arguments) -> {
                if (!FREE.contains(name)) {
                    refused[0] += run.changesNothingIfRefused(name, arguments) ? 1 : 0;
                }
            });
        }
        Due.holds("many calls are refused, but " + refused[0], refused[0] > 1000);
    }

    private interface Look {
        void at(String name, int... arguments);
    }

    private static void eachCall(Look look) {
        for (Method m : Run.CALLS.values()) {
            int many = m.getParameterCount();
            int[] numbers = many == 1 ? ONE : many == 2 ? TWO : MORE;
            int all = (int) Math.pow(numbers.length, many);
            // five arguments are tried in some ways only
            for (int k = 0; k < all; k += many == 5 ? 7 : 1) {
                int[] arguments = new int[many];
                int left = k;
                for (int a = 0; a < many; a++) {
                    arguments[a] = numbers[left % numbers.length];
                    left /= numbers.length;
                }
                look.at(m.getName(), arguments);
            }
        }
    }

    // ---- findings

    @Says("FINDINGS: 1 NOTHING (a ROW, a TEXT, a kept TENT that is missing)")
    static void terms_NOTHING() {
        Run.rich().finds(1, "at", 3, 0).finds(1, "put", 3, 0, 0).finds(1, "on", 0);
    }

    @Says("2 BEYOND (a place of a ROW, a TEXT that there is not)")
    static void terms_BEYOND() {
        Run.rich().finds(2, "at", 0, 5).finds(2, "put", 2, 60, 0).finds(2, "at", 1, 0).finds(2, "put", 1, 0, 0);
    }

    @Says("3 UNLIKE (a SLEEPER of another KIND; a number that is none)")
    static void terms_UNLIKE() {
        Run.rich().finds(3, "mark", 0, 1).fill(3, 0, 1, 2, 3, 5).finds(3, "lie", 3).finds(3, "whose", 3);
    }

    @Says("4 NOUGHT (shared among none; what can't be)")
    static void terms_NOUGHT() {
        Run.rich().finds(4, "mean", 1).finds(4, "nth", 120, 0);
    }

    @Says("5 SIZE (fewer than none; not as many as due).")
    static void terms_SIZE() {
        Run.rich().finds(5, "row", 0, -1).finds(5, "text", 0, -1).finds(5, "copy", 0, 0, 0, 0, -1).finds(5, "lie", 1)
                .finds(5, "whose", 2);
    }

    // ---- what is told

    @Says("Chances are told by upper(), lower(), in lowest terms, the lower number above 0 (0 by 1).")
    static void terms_chances_in_lowest_terms() {
        for (int p = 0; p <= 12; p++) {
            for (int stay = 1; stay <= 5; stay++) {
                BigInteger upper = BigInteger.valueOf(12 - p).pow(stay);
                BigInteger lower = BigInteger.valueOf(12).pow(stay);
                BigInteger shared = upper.gcd(lower);
                Run x = Run.of(Run.alike("00000000", 5, "s09"));
                x.chances(upper.divide(shared).longValue(), lower.divide(shared).longValue(), 5 - stay, 0, p);
            }
        }
        Run x = Run.of("c99999999 s00").chances(0, 1, 0, 0, 0);
        x.answers(0, "upper").answers(1, "lower");
    }

    @Says("Sets (of SLEEPERS, of HOURS) are told by bits.")
    static void terms_sets_by_bits() {
        Run x = Run.of(Run.alike("00000000", 5, "k09"));
        x.answersTelling(0b11111, 0, "sleeps", 0).answersTelling(4, 0, "out", 4).answers(0, "turns", 0b10000001);
        x.answers(0b10000001, "turns", 0b11111111).answers(0b11111111, "count", 3);
        for (int i = 0; i < 5; i++) {
            Run cold = Run.of(Run.alike("90000000", 5, "s09")).then("vent", 1);
            // the one behind the BOTTLE alone is warm in HOUR 0
            cold.then("bottle", i).then("sleeps", 0);
            boolean isAtRim = i == 0 || i == 4;
            cold.answersTelling(isAtRim ? 0 : 1 << i, isAtRim ? 31 : 31 - (1 << i), "sleeps", 0);
        }
    }

    // ---- 1 rows, texts, the small language

    @Says("ROWS 0 .. 5 are rows of 0 to 40 ints, TEXTS 0 .. 3 rows of 0 to 60 bytes, or missing (at first).")
    static void terms_rows_and_texts() {
        Run x = Run.fresh();
        for (int r = 0; r <= 5; r++) {
            x.finds(NOTHING, "at", r, 0).finds(NOTHING, "tear", r);
        }
        for (int t = 0; t <= 3; t++) {
            x.finds(NOTHING, "put", t, 0, 0).finds(NOTHING, "fault", t);
        }
        x.refuses(BAD, "at", 6, 0).refuses(BAD, "at", -1, 0).refuses(BAD, "put", 4, 0, 0).refuses(BAD, "put", -1, 0, 0);
        for (int r = 0; r <= 5; r++) {
            x.answers(0, "row", r, 0).finds(BEYOND, "at", r, 0).answers(40, "row", r, 40).tells(0, "lay", r, 39, LEAST);
            x.tells(LEAST, "lay", r, 39, MOST).tells(MOST, "at", r, 39).finds(BEYOND, "at", r, 40);
        }
        for (int t = 0; t <= 3; t++) {
            x.answers(0, "text", t, 0).finds(BEYOND, "put", t, 0, 1).answers(60, "text", t, 60);
            x.answers(1032, "put", t, 59, 127).answers(1127, "put", t, 59, -128).answers(872, "put", t, 59, 32);
            x.finds(BEYOND, "put", t, 60, 1);
        }
        x.answers(6, "count", 6).answers(4, "count", 7);
    }

    private static void dueFault(int want, String s) {
        Run x = Run.fresh().write(1, s);
        Due.equal("fault of '" + s + "'", x.ask("fault", 1), want);
        if (want != NONE) {
            x.refuses(STATE, "tent", 1);
        }
    }

    @Says("A TENT (without SLEEPERS at first) is a TEXT: blanks (32) ahead, between, behind as many as wanted, none within items.")
    static void terms_blanks() {
        Run.fresh().answers(0, "count", 0);
        String b = " ".repeat(36);
        String[] items = {"c12345678", "s19", "n28", "d37", "h46", "k55"};
        String packed = String.join("", items);
        dueFault(NONE, packed);
        dueFault(NONE, b + packed);
        dueFault(NONE, packed + b);
        dueFault(NONE, "c12345678" + b + packed.substring(9));
        dueFault(NONE, "      " + String.join("      ", items));
        dueFault(NONE, " " + String.join("       ", items));
        for (int i = 1; i < packed.length(); i++) {
            boolean isWithin = i < 9 || i % 3 != 0;
            dueFault(isWithin ? i : NONE, packed.substring(0, i) + " " + packed.substring(i));
        }
        // no other sign is a blank
        for (int sign = -128; sign <= 127; sign++) {
            if (sign != 32) {
                Run x = Run.fresh().write(0, " c12345678 s19 ");
                x.then("put", 0, 0, sign).answers(sign == 99 ? 1 : 0, "fault", 0).then("put", 0, 0, 32);
                x.then("put", 0, 10, sign).answers(isLetter(sign) ? 11 : 10, "fault", 0).then("put", 0, 10, 32);
                x.then("put", 0, 14, sign).answers(isLetter(sign) ? 15 : 14, "fault", 0);
            }
        }
    }

    private static boolean isLetter(int sign) {
        return sign > 0 && LETTERS.indexOf((char) sign) >= 0;
    }

    @Says("The first item is c (99) and the COLD of the HOURS 0 .. 7 (eight figures 0 .. 9).")
    static void terms_first_item() {
        for (int sign = -128; sign <= 127; sign++) {
            Run x = Run.fresh().write(0, "c12345678 s19");
            x.then("put", 0, 0, sign).answers(sign == 99 ? NONE : sign == 32 ? 1 : 0, "fault", 0).then("put", 0, 0, 99);
            for (int h = 0; h < 8; h++) {
                boolean isFigure = sign >= 48 && sign <= 57;
                x.then("put", 0, 1 + h, sign).answers(isFigure ? NONE : 1 + h, "fault", 0).then("put", 0, 1 + h, 49);
            }
        }
        dueFault(8, "c1234567 s19");
        dueFault(8, "c1234567s19");
        dueFault(9, "c123456789 s19");
        dueFault(0, "s19 c12345678");
        dueFault(14, "c12345678 s19 c12345678");
        // the middle one FEELS its BAG less the COLD, and 3 with the BOTTLE (HOURS 1, 4, 7)
        Run x = Run.of("c01234569 s00 s00 s00");
        int[] feels = {0, -1 + 3, -2, -3, -4 + 3, -5, -6, -9 + 3};
        for (int h = 0; h < 8; h++) {
            x.tells(feels[h], "feels", 1, h);
        }
    }

    @Says("Then SLEEPERS (1 to 5; 0, 1, .. as they come): a letter, what one GIVES (0 .. 5), one's BAG (0 .. 9), one figure each.")
    static void terms_sleepers() {
        dueFault(9, "c12345678");
        for (int many = 1; many <= 5; many++) {
            Run.fresh().write(0, Run.alike("12345678", many, "s59")).answers(NONE, "fault", 0).answers(many, "tent", 0);
        }
        dueFault(30, Run.alike("12345678", 6, "s59"));
        for (int sign = -128; sign <= 127; sign++) {
            Run x = Run.fresh().write(0, "c12345678s19").then("put", 0, 9, sign);
            x.answers(isLetter(sign) ? NONE : sign == 32 ? 10 : 9, "fault", 0).then("put", 0, 9, 115);
            x.then("put", 0, 10, sign).answers(sign >= 48 && sign <= 53 ? NONE : 10, "fault", 0).then("put", 0, 10, 48);
            x.then("put", 0, 11, sign).answers(sign >= 48 && sign <= 57 ? NONE : 11, "fault", 0);
        }
        dueFault(13, "c12345678 s190");
        Run x = Run.of("c12345678 s09 n18 d27 t36 k50");
        int[] kinds = {0, 1, 2, 4, 5};
        int[] gives = {0, 1, 2, 3, 5};
        int[] bags = {9, 8, 7, 6, 0};
        for (int i = 0; i < 5; i++) {
            x.tells(kinds[i], "sleeper", i, 0).tells(gives[i], "sleeper", i, 1).tells(bags[i], "sleeper", i, 2);
        }
    }

    @Says("A FAULT is the first place at which it can't go on so (a letter, a figure that is none such, a sixth one: its place;")
    static void terms_FAULT_its_place() {
        dueFault(0, "x");
        dueFault(0, "C12345678 s19");
        dueFault(3, "   s12");
        dueFault(4, "c123x5678 y99");
        dueFault(10, "c12345678 S19");
        dueFault(11, "c12345678 s69");
        dueFault(12, "c12345678 s5x");
        dueFault(14, "c12345678 s19 xx9");
        dueFault(24, "c12345678s19n28d37h46t55k05");
        dueFault(27, "c12345678s19n28d37h46t55   k05");
        dueFault(24, "c12345678s19n28d37h46t55x");
        dueFault(59, "c12345678s19n28d37h46t55" + " ".repeat(35) + "k");
    }

    @Says("the TEXT's size, if its end comes too early, or there are blanks alone).")
    static void terms_FAULT_the_size() {
        dueFault(0, "");
        dueFault(1, " ");
        dueFault(60, " ".repeat(60));
        String whole = "  c12345678 s19 n28 d37 h46 t55";
        for (int size = 0; size <= whole.length(); size++) {
            // an item is over at 15, 19, .., a blank may follow
            boolean isWhole = size >= 15 && ((size - 15) % 4 == 0 || (size - 16) % 4 == 0);
            dueFault(isWhole ? NONE : size, whole.substring(0, size));
        }
        dueFault(60, "c12345678" + " ".repeat(51));
        dueFault(60, " ".repeat(49) + "c12345678 s");
        dueFault(60, " ".repeat(48) + "c12345678 s1");
        dueFault(NONE, " ".repeat(47) + "c12345678 s19");
    }

    // ---- kinds

    @Says("KINDS of SLEEPERS and letters: 0 SLEEPER (s, 115), 1 SNORER (n, 110; a SLEEPER), 2 DEAF (d, 100; a SLEEPER), "
            + "3 STOVE (h, 104; a SLEEPER), 4 THUNDER (t, 116; a SNORER), 5 STONE (k, 107; a DEAF).")
    static void terms_KINDS() {
        int[] letters = {115, 110, 100, 104, 116, 107};
        String[] is = {"", "1", "2", "3", "14", "25"};
        for (int kind = 0; kind < 6; kind++) {
            Run x = Run.fresh().write(0, "c00000000 s19").then("put", 0, 10, letters[kind]).answers(1, "tent", 0);
            x.tells(kind, "sleeper", 0, 0);
            for (int asked = 1; asked <= 5; asked++) {
                if (is[kind].indexOf('0' + asked) >= 0) {
                    x.then("mark", 0, asked);
                } else {
                    x.finds(UNLIKE, "mark", 0, asked);
                }
            }
        }
    }

    @Says("They lie in a row, at PLACES 0 (at the DOOR), 1, .., one each (at first SLEEPER 0 at PLACE 0, and so on).")
    static void terms_PLACES() {
        Run.of("c00000000 s09").lies(0).answersTelling(0, 0, "out", 0);
        Run.of("c00000000 s09 n18 d27 h36 k50").lies(0, 1, 2, 3, 4).answersTelling(4, 15, "out", 4);
    }

    @Says("The first and the last PLACE are at the RIM.")
    static void terms_RIM() {
        for (int many = 1; many <= 5; many++) {
            Run x = Run.of(Run.alike("00000000", many, "s09")).then("hour");
            for (int i = 0; i < many; i++) {
                x.tells(i == 0 || i == many - 1 ? 1 : 0, "sleeper", i, 5);
            }
        }
        // who is first and last at once is at the RIM once
        Run.of("c00000000 s09").tells(9 + 3 - 2, "feels", 0, 0).tells(9 + 3 - 2 - 3, "feels", 0, 7);
    }

    @Says("A STOVE GIVES twice as much.")
    static void terms_STOVE() {
        for (int gives = 0; gives <= 5; gives++) {
            Run x = Run.of("c00000000 s00 h" + gives + "0 s00").tells(2 * gives, "sleeper", 1, 1);
            x.tells(2 * gives - 2, "feels", 0, 1);
        }
        Run.of("c00000000 s00 s50 s00").tells(5, "sleeper", 1, 1).tells(5 - 2, "feels", 0, 1);
    }

    private static void dueHeard(String tent, int heardBy) {
        Run x = Run.of(tent);
        for (int i = 0; i < x.ask("count", 0); i++) {
            Due.equal(tent + ": " + i + " HEARS", x.ask("why", i, 0) & HEARS, (heardBy >> i & 1) == 1 ? HEARS : 0);
        }
    }

    @Says("A SNORER is HEARD by those beside it, a THUNDER also by those two PLACES off; a DEAF one (STONE, too) HEARS none, nobody oneself.")
    static void terms_HEARD() {
        dueHeard("c00000000 s09 s09 n09 s09 s09", 0b01010);
        dueHeard("c00000000 n09 s09 s09 s09 s09", 0b00010);
        dueHeard("c00000000 s09 s09 s09 s09 n09", 0b01000);
        dueHeard("c00000000 s09 s09 t09 s09 s09", 0b11011);
        dueHeard("c00000000 t09 s09 s09 s09 s09", 0b00110);
        dueHeard("c00000000 s09 s09 s09 s09 t09", 0b01100);
        dueHeard("c00000000 d09 k09 t09 d09 k09", 0);
        dueHeard("c00000000 n09", 0);
        dueHeard("c00000000 t09", 0);
        dueHeard("c00000000 n09 t09", 0b11);
        dueHeard("c00000000 n09 s09 t09", 0b011);
        dueHeard("c00000000 h09 t09 n09", 0b111);
    }

    // ---- 2 hours

    @Says("A NIGHT has HOURS 0 .. 7.")
    static void terms_NIGHT() {
        Run x = Run.of("c00000000 s09").refuses(BAD, "feels", 0, -1).refuses(BAD, "feels", 0, 8);
        x.then("feels", 0, 0).then("feels", 0, 7);
        for (int h = 0; h < 8; h++) {
            x.answersTelling(h, 0, "now").then("hour");
        }
        x.answersTelling(8, 0, "now").refuses(STATE, "hour");
    }

    @Says("In an HOUR one FEELS: one's BAG, and what those beside one GIVE, and 3 with the BOTTLE, less the COLD of the HOUR, "
            + "less 2 at the RIM, less 2 for all, if the VENT is open (it is shut at first);")
    static void terms_FEELS() {
        Run x = Run.of("c30000009 s18 h27 s36 s45 t54").answers(0, "count", 4);
        // by PLACES: BAGS 8 7 6 5 4, GIVEN 1 4 3 4 5
        x.tells(8 + 4 + 3 - 3 - 2, "feels", 0, 0).tells(7 + 1 + 3 - 3, "feels", 1, 0).tells(6 + 4 + 4 - 3, "feels", 2, 0);
        x.tells(5 + 3 + 5 - 3, "feels", 3, 0).tells(4 + 4 - 3 - 2, "feels", 4, 0).tells(7 + 1 + 3 + 3, "feels", 1, 1);
        x.answers(0, "vent", 1);
        x.tells(8 + 4 + 3 - 3 - 2 - 2, "feels", 0, 0).tells(6 + 4 + 4 - 3 - 2, "feels", 2, 0);
        x.tells(4 + 4 - 3 - 2 - 2, "feels", 4, 0).tells(4 + 4 - 9 - 2 - 2, "feels", 4, 7).tells(6 + 4 + 4 + 3 - 9 - 2, "feels", 2, 7);
        x.then("change", 0, 2).tells(6 + 4 - 2 - 2, "feels", 2, 1).tells(8 + 4 + 4 - 2, "feels", 0, 1);
        x.then("bags", 0, 4).tells(4 + 4 + 4 - 2, "feels", 0, 1).tells(8 + 4 - 2 - 2, "feels", 4, 1);
    }

    @Says("if it is shut, less half the number of the HOUR (cut) at the RIM.")
    static void terms_half_the_number_of_the_HOUR() {
        // the BOTTLE comes to PLACE 0 in HOURS 0, 5, to PLACE 2 in HOURS 2, 7, to PLACE 4 in HOUR 4
        Run x = Run.of(Run.alike("00000000", 5, "s09"));
        int[] half = {0, 0, 1, 1, 2, 2, 3, 3};
        for (int h = 0; h < 8; h++) {
            x.tells(9 - 2 - half[h] + (h % 5 == 0 ? 3 : 0), "feels", 0, h);
            x.tells(9 + (h % 5 == 2 ? 3 : 0), "feels", 2, h);
            x.tells(9 - 2 - half[h] + (h == 4 ? 3 : 0), "feels", 4, h);
        }
        x.then("vent", 1).tells(9 - 2 - 2, "feels", 0, 7).tells(9 - 2 - 2, "feels", 4, 6).tells(9 - 2, "feels", 2, 6);
        x.then("vent", 0).tells(9 - 2 - 3, "feels", 0, 7);
    }

    @Says("The BOTTLE lies in HOUR 0 at the PLACE told (0 at first), in each next HOUR 1 PLACE further (behind the last one at PLACE 0 again).")
    static void terms_BOTTLE_goes_round() {
        for (int many = 1; many <= 5; many++) {
            for (int from = 0; from < many; from++) {
                Run x = Run.of(Run.alike("00000000", many, "s09")).then("vent", 1).answers(0, "bottle", from);
                int place = from;
                for (int h = 0; h < 8; h++) {
                    for (int i = 0; i < many; i++) {
                        int without = 9 - 2 - (i == 0 || i == many - 1 ? 2 : 0);
                        x.tells(i == place ? without + 3 : without, "feels", i, h);
                    }
                    place = place == many - 1 ? 0 : place + 1;
                }
            }
        }
        Run.of("c00000000 s09 s09").answers(0, "bottle", 1);
    }

    private static void dueWhy(int turns, int... why) {
        Run x = Run.of("c00000000 s09 k09").then("vent", 1).then("turns", turns);
        for (int h = 0; h < 8; h++) {
            x.answers(why[h], "why", 0, h);
            // a STONE is SORE, but not WOKEN
            x.answers(why[h] & SORE, "why", 1, h);
        }
    }

    @Says("TURNS are HOURS in which all turn (none at first).")
    static void terms_TURNS() {
        Run x = Run.of(Run.alike("00000000", 5, "s09")).answers(0, "count", 3).answers(0, "turns", 255);
        for (int h = 0; h < 8; h++) {
            for (int i = 0; i < 5; i++) {
                x.answers(WOKEN, "why", i, h);
            }
        }
    }

    @Says("One is SORE in an HOUR, if it is 3 HOURS or more since the last TURN (since HOUR 0, if there was none; in an HOUR of a TURN not).")
    static void terms_SORE() {
        dueWhy(0b00000000, 0, 0, 0, SORE, SORE, SORE, SORE, SORE);
        dueWhy(0b00000001, WOKEN, 0, 0, SORE, SORE, SORE, SORE, SORE);
        dueWhy(0b00000010, 0, WOKEN, 0, 0, SORE, SORE, SORE, SORE);
        dueWhy(0b00000100, 0, 0, WOKEN, 0, 0, SORE, SORE, SORE);
        dueWhy(0b00001000, 0, 0, 0, WOKEN, 0, 0, SORE, SORE);
        dueWhy(0b00010000, 0, 0, 0, SORE, WOKEN, 0, 0, SORE);
        dueWhy(0b00100000, 0, 0, 0, SORE, SORE, WOKEN, 0, 0);
        dueWhy(0b10000000, 0, 0, 0, SORE, SORE, SORE, SORE, WOKEN);
        dueWhy(0b01001000, 0, 0, 0, WOKEN, 0, 0, WOKEN, 0);
        dueWhy(0b10000001, WOKEN, 0, 0, SORE, SORE, SORE, SORE, WOKEN);
    }

    @Says("One is WOKEN in each HOUR of a TURN, a STONE not.")
    static void terms_WOKEN() {
        dueWhy(0b11111111, WOKEN, WOKEN, WOKEN, WOKEN, WOKEN, WOKEN, WOKEN, WOKEN);
        Run x = Run.of("c00000000 n09 d09 h09 d09 t09").then("turns", 1);
        for (int i = 0; i < 5; i++) {
            Due.equal("one of KIND " + i + " is WOKEN", x.ask("why", i, 0) & WOKEN, WOKEN);
        }
        Run.of("c00000000 k09").then("turns", 255).answers(0, "why", 0, 0).answers(0, "why", 0, 7).answers(8, "slept", 0);
    }

    @Says("One SLEEPS in an HOUR, if one FEELS 0 or more, HEARS none, is not SORE, not WOKEN. (A STONE is SORE, too.)")
    static void terms_SLEEPS() {
        Run.of("c50000000 s04").tells(0, "feels", 0, 0).answers(0, "why", 0, 0).answersTelling(1, 0, "sleeps", 0);
        Run.of("c60000000 s04").tells(-1, "feels", 0, 0).answers(COLD, "why", 0, 0).answersTelling(0, 1, "sleeps", 0);
        Run.of("c00000000 n09 s09").answersTelling(0b01, 0, "sleeps", 0).answersTelling(0, 0, "sleeps", 3);
        Run.of("c00000000 s09 s09").then("turns", 2).answersTelling(0b11, 0, "sleeps", 0).answersTelling(0, 0, "sleeps", 1);
        Run.of("c00000000 k09").answers(0, "why", 0, 2).answers(SORE, "why", 0, 3);
    }

    @Says("ORDERS are rows of SLEEPERS, by PLACES; they go by their first numbers, then second ones, ..")
    static void terms_ORDERS() {
        Run x = Run.of(Run.alike("00000000", 3, "s09"));
        int[][] orders = {{0, 1, 2}, {0, 2, 1}, {1, 0, 2}, {1, 2, 0}, {2, 0, 1}, {2, 1, 0}};
        for (int k = 0; k < 6; k++) {
            x.answers(1, "nth", k, 0).holds(0, orders[k]).answers(1, "lie", 0).lies(orders[k]);
        }
    }

    @Says("The WORTH of an ORDER is all HOURS slept of a whole NIGHT, of all, the TENT else as it is.")
    static void terms_WORTH() {
        // a whole NIGHT, whichever HOUR is to come, and whatever was slept truly
        Run x = Run.of(Run.alike("00000000", 5, "k09")).then("turns", 36).answersTelling(40, 8, "worth");
        x.hours(8).answersTelling(40, 8, "worth").then("night").hours(3).answersTelling(40, 8, "worth");
        x.then("turns", 0).answersTelling(15, 3, "worth");
        Run.of(Run.alike("99999999", 5, "s00")).answersTelling(0, 0, "worth");
        Run.of("c00000000 s09").answersTelling(3, 3, "worth");
    }

    // ---- 3 lots

    @Says("LOTS: a number comes from the one ahead by 48271 times it modulo 2147483647, the first from a seed (1 .. 2147483646).")
    static void terms_LOTS() {
        int[] seeds = {1, 2, 44488, 44489, 48271, 1073741823, 2147438000, 2147483645, 2147483646};
        for (int seed : seeds) {
            Run x = Run.of(Run.alike("00000000", 5, "s09")).answers(15, "lots", seed);
            x.lies(ChanceEdges.orderByLots(5, seed));
        }
        Run.of("c00000000 s09").refuses(BAD, "lots", 0).refuses(BAD, "lots", 2147483647);
    }

    // ---- aside

    @Says("(aside; HOURS 0 .. 7, as the TENT is).")
    static void terms_aside() {
        Run x = Run.rich();
        for (int h = 0; h < 8; h++) {
            x.changesOnly("asked", "feels", 2, h).changesOnly("", "why", 2, h).changesOnly("asked", "sleeps", h);
        }
        x.changesOnly("", "slept", 0).changesOnly("asked", "coldest").changesOnly("asked", "good", 1);
        x.changesOnly("asked", "worth");
    }
}
