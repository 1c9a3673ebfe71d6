import java.util.ArrayList;
import java.util.List;

/** Promises 33 to 39, who lies where, each sentence at its edges. */
final class OrderEdges {
    private static final int BAD = Run.BAD, STATE = Run.STATE, NOUGHT = Run.NOUGHT, LEAST = Run.LEAST, MOST = Run.MOST;
    private static final int[] NO_ROWS = {LEAST, -9, -1, 6, 7, 40, MOST};

    private OrderEdges() {
    }

    private static int[][] orders(int many) {
        List<int[]> all = new ArrayList<>();
        grow(new int[0], many, all);
        return all.toArray(new int[0][]);
    }

    private static void grow(int[] begun, int many, List<int[]> all) {
        if (begun.length == many) {
            all.add(begun);
        }
        for (int i = 0; i < many && begun.length < many; i++) {
            boolean isNew = true;
            for (int other : begun) {
                isNew &= other != i;
            }
            if (isNew) {
                int[] next = java.util.Arrays.copyOf(begun, begun.length + 1);
                next[begun.length] = i;
                grow(next, many, all);
            }
        }
    }

    /** What each SLEEPER SLEEPS by each ORDER, tried out by change() of PLACES alone. */
    private static int[][] sleptByOrders(Run x, int[][] orders) {
        int[][] slept = new int[orders.length][];
        for (int k = 0; k < orders.length; k++) {
            Run y = x.again();
            slept[k] = new int[orders[k].length];
            for (int p = 0; p < orders[k].length; p++) {
                for (int i = 0; i < orders[k].length; i++) {
                    if (placeOf(y, i) == p) {
                        y.then("change", i, orders[k][p]);
                        break;
                    }
                }
            }
            for (int i = 0; i < slept[k].length; i++) {
                slept[k][i] = (int) y.ask("slept", i);
            }
        }
        return slept;
    }

    private static long placeOf(Run x, int i) {
        x.then("sleeper", i, 3);
        return x.ask("asked");
    }

    private static int sum(int[] numbers) {
        return java.util.Arrays.stream(numbers).sum();
    }

    private static int least(int[] numbers) {
        return java.util.Arrays.stream(numbers).min().orElse(0);
    }

    /** A ROW comes anew, whatever it was, and nothing else changes. */
    private static void dueRow(Run x, long answer, int[] row, String name, int... ahead) {
        int[] arguments = java.util.Arrays.copyOf(ahead, ahead.length + 1);
        for (int r : new int[] {0, 5}) {
            arguments[ahead.length] = r;
            Run want = x.again().fill(r, row);
            x.again().answers(answer, name, arguments).isLike(name, want, "asked");
            x.again().then("row", r, 40).answers(answer, name, arguments).isLike(name, want, "asked");
        }
        arguments[ahead.length] = 1;
        x.again().then("row", 1, 0).then("at", 2, 0).answers(answer, name, arguments).holds(1, row).answers(4, "asked");
    }

    private static Run withRows(String tent) {
        return Run.of(tent).fill(2, 4).then("odds", 0, 0, 5);
    }

    // ---- best, fair

    @Says("The ORDER of most WORTH (the first) comes to a ROW (anew): its WORTH.")
    static void p33_most_WORTH() {
        dueRow(withRows("c00000000 s09"), 3, new int[] {0}, "best");
        dueRow(withRows(Run.alike("00000000", 5, "s09")), 15, new int[] {0, 1, 2, 3, 4}, "best");
        // only the DEAF one may lie beside the SNORER: 0 2 1 is ahead of 1 2 0
        dueRow(withRows("c00000000 s09 n09 d09"), 9, new int[] {0, 2, 1}, "best");
        // the STONE in the middle SLEEPS 8, at the RIM 5; 0 SLEEPS 3 in the middle: 0 2 1 is the first of four best ones
        dueRow(withRows("c22222222 s00 s09 k05").then("turns", 36), 0 + 8 + 6, new int[] {0, 2, 1}, "best");
        Run.of(Tents.LAST_IS_BEST).then("turns", 36).then("best", 0).holds(0, 4, 3, 2, 1, 0);
        for (String tent : Tents.ALL) {
            for (Run x : Tents.set(tent)) {
                int[][] orders = orders((int) x.again().ask("count", 0));
                int[][] slept = sleptByOrders(x, orders);
                int best = 0;
                for (int k = 0; k < orders.length; k++) {
                    best = sum(slept[k]) > sum(slept[best]) ? k : best;
                }
                x.again().answers(sum(slept[best]), "best", 3).holds(3, orders[best]);
            }
        }
    }

    @Says("BAD;")
    static void p33_BAD() {
        dueNoRow("best");
    }

    @Says("STATE: no SLEEPERS.")
    static void p33_STATE() {
        Run.fresh().refuses(STATE, "best", 0).then("row", 5, 3).refuses(STATE, "best", 5);
    }

    private static void dueNoRow(String name, int... ahead) {
        int[] arguments = java.util.Arrays.copyOf(ahead, ahead.length + 1);
        for (int r : NO_ROWS) {
            arguments[ahead.length] = r;
            Run.rich().refuses(BAD, name, arguments);
            Run.fresh().refuses(BAD, name, arguments);
        }
    }

    @Says("The ORDER by which the one who SLEEPS least SLEEPS most (the first) comes to a ROW (anew): how much that is.")
    static void p34_who_SLEEPS_least() {
        dueRow(withRows("c00000000 s09"), 3, new int[] {0}, "fair");
        dueRow(withRows(Run.alike("00000000", 5, "s09")), 3, new int[] {0, 1, 2, 3, 4}, "fair");
        dueRow(withRows("c00000000 n09 s09"), 0, new int[] {0, 1}, "fair");
        // at the RIM a BAG of 3 is needed in HOUR 2: 2 and 3 lie there
        dueRow(withRows("c00000000 s00 s02 s05 s09"), 3, new int[] {2, 0, 1, 3}, "fair");
        Run.of(Tents.LAST_IS_FAIR).then("turns", 36).then("fair", 0).holds(0, 4, 3, 2, 1, 0);
        for (String tent : Tents.ALL) {
            for (Run x : Tents.set(tent)) {
                int[][] orders = orders((int) x.again().ask("count", 0));
                int[][] slept = sleptByOrders(x, orders);
                int best = 0;
                for (int k = 0; k < orders.length; k++) {
                    best = least(slept[k]) > least(slept[best]) ? k : best;
                }
                x.again().answers(least(slept[best]), "fair", 3).holds(3, orders[best]);
            }
        }
    }

    @Says("BAD;")
    static void p34_BAD() {
        dueNoRow("fair");
    }

    @Says("STATE: no SLEEPERS.")
    static void p34_STATE() {
        Run.fresh().refuses(STATE, "fair", 0).then("row", 5, 3).refuses(STATE, "fair", 5);
    }

    // ---- turning, warm, thin

    @Says("TURNS (a set of HOURS, the least number of the best) by which WORTH is most; that by asked().")
    static void p35_turning() {
        Run.of(Run.alike("00000000", 5, "k09")).answersTelling(36, 40, "turning");
        Run.of("c00000000 s09 s09").answersTelling(36, 12, "turning").then("turns", 255).answersTelling(36, 12, "turning");
        Run.of("c99999999 s00").answersTelling(0, 0, "turning");
        // HOURS 6 and 7 alone are slept: a TURN in HOUR 4 is the earliest that does for HOUR 6, in HOUR 5 for both
        Run.of("c99999900 s05").answersTelling(32, 2, "turning");
        Run.of("c99999909 s05").answersTelling(16, 1, "turning");
        Run.of("c99999990 s05").answersTelling(32, 1, "turning");
        Run.of("c99990999 s05").answersTelling(4, 1, "turning");
        for (String tent : Tents.ALL) {
            for (Run x : Tents.set(tent)) {
                int best = 0;
                long most = -1;
                for (int set = 0; set < 256; set++) {
                    long worth = x.again().then("turns", set).ask("worth");
                    best = worth > most ? set : best;
                    most = Math.max(worth, most);
                }
                x.answersTelling(best, (int) most, "turning").changesOnly("asked", "turning");
            }
        }
        Run.rich().changesOnly("asked", "turning");
    }

    @Says("STATE: no SLEEPERS.")
    static void p35_STATE() {
        Run.fresh().fill(0, 7).then("at", 0, 0).refuses(STATE, "turning");
    }

    @Says("The PLACE at which the BOTTLE is to lie in HOUR 0 so that WORTH is most (the first); that by asked().")
    static void p36_warm() {
        Run.of("c00000000 s09").answersTelling(0, 3, "warm");
        Run.of(Run.alike("00000000", 5, "s09")).then("bottle", 4).answersTelling(0, 15, "warm");
        Run.of(Run.alike("99999999", 5, "s00")).answersTelling(0, 0, "warm");
        // in HOUR 0 one at the RIM with the BOTTLE would SLEEP (5 + 3 - 6 - 2), the middle ones with it (3 + 3 - 6)
        Run.of("c69999999 s00 s00 s00 s00 s05").answersTelling(4, 1, "warm");
        Run.of("c69999999 s00 s03 s00 s03 s00").answersTelling(1, 1, "warm");
        // HOUR 2 alone: from PLACE 3 the BOTTLE comes round to PLACE 0
        Run.of("c99599999 s05 s00 s00 s00 s00").answersTelling(3, 1, "warm");
        for (String tent : Tents.ALL) {
            for (Run x : Tents.set(tent)) {
                int best = 0;
                long most = -1;
                for (int p = 0; p < Tents.many(tent); p++) {
                    long worth = x.again().then("bottle", p).ask("worth");
                    best = worth > most ? p : best;
                    most = Math.max(worth, most);
                }
                x.answersTelling(best, (int) most, "warm").changesOnly("asked", "warm");
            }
        }
        Run.rich().changesOnly("asked", "warm");
    }

    @Says("STATE: no SLEEPERS.")
    static void p36_STATE() {
        Run.fresh().fill(0, 7).then("at", 0, 0).refuses(STATE, "warm");
    }

    /** The same TENT with the BAGS of others: the last figure of an item is the BAG. */
    private static String withBags(String tent, int[] whose) {
        String[] items = tent.split(" ");
        StringBuilder s = new StringBuilder(items[0]);
        for (int i = 0; i < whose.length; i++) {
            s.append(' ').append(items[1 + i], 0, 2).append(items[1 + whose[i]].charAt(2));
        }
        return s.toString();
    }

    /** Those who have the BAGS now give them by bags() alone to those who are to have them. */
    private static long worthByBags(Run x, int[] whose) {
        Run y = x.again();
        int[] has = new int[whose.length];
        for (int i = 0; i < has.length; i++) {
            has[i] = i;
        }
        for (int i = 0; i < has.length; i++) {
            int holder = i;
            while (has[holder] != whose[i]) {
                holder++;
            }
            y.then("bags", i, holder);
            has[holder] = has[i];
            has[i] = whose[i];
        }
        return y.ask("worth");
    }

    @Says("Who is to have whose BAG so that WORTH is most: a row of those whose BAGS SLEEPERS 0, 1, .. have (the first) comes to "
            + "a ROW (anew): WORTH.")
    static void p37_thin() {
        dueRow(withRows("c00000000 s09"), 3, new int[] {0}, "thin");
        dueRow(withRows(Run.alike("00000000", 5, "s09")), 15, new int[] {0, 1, 2, 3, 4}, "thin");
        // the one without a BAG is to lie in the middle: it FEELS -2 there, 1 with the BOTTLE
        dueRow(withRows("c22222222 s00 s09 s09"), 3 + 1 + 3, new int[] {1, 0, 2}, "thin");
        // whose BAG, not to whom: 0 gets that of 1, 1 that of 2, 2 that of 0
        dueRow(withRows("c00400000 s04 s09 s00"), 3 + 2 + 3, new int[] {1, 2, 0}, "thin");
        Run.of(Tents.LAST_IS_THIN).then("turns", 36).then("thin", 0).holds(0, 4, 3, 2, 1, 0);
        for (String tent : Tents.ALL) {
            int[][] orders = orders(Tents.many(tent));
            for (Run x : Tents.set(tent)) {
                int best = 0;
                long most = -1;
                for (int k = 0; k < orders.length; k++) {
                    long worth = worthByBags(x, orders[k]);
                    best = worth > most ? k : best;
                    most = Math.max(worth, most);
                }
                x.again().answers(most, "thin", 3).holds(3, orders[best]);
            }
            // BAGS were changed ahead: those that SLEEPERS have now go round
            if (orders.length > 1) {
                int[] swapped = orders[orders.length - 1];
                Run x = Run.of(withBags(tent, swapped)).then("best", 0);
                Run y = Run.of(tent);
                for (int i = 0; i < swapped.length / 2; i++) {
                    y.then("bags", i, swapped.length - 1 - i);
                }
                x.then("thin", 0);
                y.then("best", 0).then("thin", 0).write(0, withBags(tent, swapped)).isLike("thin", x, "asked");
            }
        }
    }

    @Says("BAD;")
    static void p37_BAD() {
        dueNoRow("thin");
    }

    @Says("STATE: no SLEEPERS.")
    static void p37_STATE() {
        Run.fresh().refuses(STATE, "thin", 0).then("row", 5, 3).refuses(STATE, "thin", 5);
    }

    // ---- what was tried ahead

    @Says("A TENT by a TEXT (anew:")
    static void p11_what_was_tried_in_a_TENT_ahead_is_forgotten() {
        for (String ahead : Tents.ALL) {
            for (String tent : Tents.ALL) {
                Run x = Run.of(ahead).then("turns", 36).then("best", 0).then("fair", 1).then("thin", 2).then("nights", 3, 3);
                x.then("turning").then("warm").then("good", 0).then("kinds", 0, 5).write(0, tent).then("tent", 0);
                Run y = Run.of(tent);
                x.answers(y.ask("best", 0), "best", 0).answers(y.ask("fair", 1), "fair", 1).answers(y.ask("thin", 2), "thin", 2);
                x.answers(y.ask("kinds", 0, 3), "kinds", 0, 3).answers(y.ask("nights", 1, 3), "nights", 1, 3);
                x.answers(y.ask("nights", 2, 4), "nights", 2, 4).answers(y.ask("nights", 3, 5), "nights", 3, 5);
                x.then("good", 0).isLike("a TENT behind another one", y.then("good", 0), "");
            }
        }
    }

    // ---- nights, nth

    private static int leastOfAll(int[][] slept, int... chosen) {
        int[] sums = new int[slept[0].length];
        for (int k : chosen) {
            for (int i = 0; i < sums.length; i++) {
                sums[i] += slept[k][i];
            }
        }
        return least(sums);
    }

    @Says("ORDERS for n (1 .. 3) NIGHTS so that who SLEEPS least in all of them SLEEPS most:")
    static void p38_ORDERS_for_NIGHTS() {
        for (String tent : Tents.ALL) {
            for (Run x : Tents.set(tent)) {
                int[][] orders = orders((int) x.again().ask("count", 0));
                int[][] slept = sleptByOrders(x, orders);
                int[] most = {0, -1, -1, -1};
                int[][] first = new int[4][];
                for (int a = 0; a < orders.length; a++) {
                    most[1] = better(slept, most[1], first, a);
                    for (int b = a; b < orders.length; b++) {
                        most[2] = better(slept, most[2], first, a, b);
                        for (int c = b; c < orders.length; c++) {
                            most[3] = better(slept, most[3], first, a, b, c);
                        }
                    }
                }
                for (int n = 1; n <= 3; n++) {
                    x.again().answers(most[n], "nights", n, 3).holds(3, first[n]);
                }
            }
        }
        Run.of(Tents.LAST_IS_FAIR).then("turns", 36).then("nights", 1, 0).holds(0, 119);
        // the NIGHTS and HOURS that went by are none of them
        Run.of("c00000000 n09 s09 s09").hours(8).then("night").answers(3, "nights", 2, 0).holds(0, 0, 1);
    }

    private static int better(int[][] slept, int most, int[][] first, int... chosen) {
        int reached = leastOfAll(slept, chosen);
        if (reached > most) {
            first[chosen.length] = chosen;
        }
        return Math.max(reached, most);
    }

    @Says("they come to a ROW (anew) by their numbers (0 the first ORDER), not falling (of alike rows the first): how much that is.")
    static void p38_by_their_numbers() {
        dueRow(withRows("c00000000 s09"), 3, new int[] {0}, "nights", 1);
        dueRow(withRows("c00000000 s09"), 9, new int[] {0, 0, 0}, "nights", 3);
        dueRow(withRows(Run.alike("00000000", 5, "s09")), 6, new int[] {0, 0}, "nights", 2);
        dueRow(withRows(Run.alike("99999999", 5, "s00")), 0, new int[] {0, 0, 0}, "nights", 3);
        dueRow(withRows(Run.alike("00000000", 5, "k09")).then("turns", 36), 24, new int[] {0, 0, 0}, "nights", 3);
        // SNORER 0 at the DOOR keeps one awake: 0 1 2 (number 0) 1, 0 2 1 (number 1) 2
        dueRow(withRows("c00000000 n09 s09 s09"), 0, new int[] {0}, "nights", 1);
        dueRow(withRows("c00000000 n09 s09 s09"), 3, new int[] {0, 1}, "nights", 2);
        dueRow(withRows("c00000000 n09 s09 s09"), 3, new int[] {0, 0, 1}, "nights", 3);
    }

    @Says("BAD;")
    static void p38_BAD() {
        for (int n : new int[] {LEAST, -1, 0, 4, 5, MOST}) {
            Run.rich().refuses(BAD, "nights", n, 0);
            Run.fresh().refuses(BAD, "nights", n, 0);
        }
        dueNoRow("nights", 1);
        dueNoRow("nights", 3);
    }

    @Says("STATE: no SLEEPERS.")
    static void p38_STATE() {
        Run.fresh().refuses(STATE, "nights", 1, 0).then("row", 5, 3).refuses(STATE, "nights", 3, 5);
    }

    @Says("ORDER number k (0, 1, ..) comes to a ROW (anew): 1.")
    static void p39_ORDER_number_k() {
        for (int many = 1; many <= 5; many++) {
            int[][] orders = orders(many);
            Run x = withRows(Run.alike("00000000", many, "s09")).then("lots", 5);
            for (int k = 0; k < orders.length; k++) {
                x.again().answers(1, "nth", k, 3).holds(3, orders[k]);
            }
            dueRow(x, 1, orders[orders.length - 1], "nth", orders.length - 1);
            dueRow(x, 1, orders[0], "nth", 0);
        }
    }

    @Says("BAD: below 0;")
    static void p39_BAD_below_0() {
        for (int k : new int[] {LEAST, -9, -1}) {
            Run.rich().refuses(BAD, "nth", k, 0).refuses(BAD, "nth", k, 5);
        }
        dueNoRow("nth", 0);
        dueNoRow("nth", 120);
    }

    @Says("STATE: no SLEEPERS;")
    static void p39_STATE() {
        Run.fresh().refuses(STATE, "nth", 0, 0).refuses(STATE, "nth", 1, 5).refuses(STATE, "nth", MOST, 0);
    }

    @Says("NOUGHT: there are not so many.")
    static void p39_NOUGHT() {
        int[] many = {0, 1, 2, 6, 24, 120};
        for (int n = 1; n <= 5; n++) {
            Run x = Run.of(Run.alike("00000000", n, "s09")).then("row", 4, 2).answers(1, "nth", many[n] - 1, 0);
            x.finds(NOUGHT, "nth", many[n], 0).finds(NOUGHT, "nth", many[n], 4).finds(NOUGHT, "nth", MOST, 5);
        }
    }

    @Says("(In this order.)")
    static void p39_in_this_order() {
        Run.fresh().refuses(BAD, "nth", -1, 0).refuses(STATE, "nth", 500, 0);
        Run.rich().refuses(BAD, "nth", 500, 6).finds(NOUGHT, "nth", 500, 0);
    }
}
