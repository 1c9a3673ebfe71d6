/** TENTS in which a fault shows, each set in several ways: what a call tries out is tried in the TENT as it is. */
final class Tents {
    /** With TURNS in HOURS 2 and 5 the last of all ORDERS, and it alone, is the best one, the fairest one, so for BAGS. */
    static final String LAST_IS_BEST = "c42034632 d26 k10 d24 s02 d09", LAST_IS_FAIR = "c46166692 d03 k53 d11 d06 s19",
            LAST_IS_THIN = "c41010435 d48 k15 d11 d00 d07";
    /** Where each ORDER, BAG and TURN makes a difference, and where none does. */
    static final String[] ALL = {
        "c34567865 s24 n36 d15 h33 t27", "c12321232 n18 k05 t42 h50 s39", "c00000000 s09 s09 s09 s09 s09",
        "c99999999 s00 s00 s00 s00 s00", "c45454545 h50 s03 s17 d26 n38", "c20304050 t09 n29 s34", "c77777777 s58 h59",
        "c31323334 s03", "c53545352 d14 h31 k28 n05", LAST_IS_BEST, LAST_IS_FAIR, LAST_IS_THIN,
        "c99898999 s39 h58 k29 d53 t09",
    };
    static final String LETTERS = "sndhtk";

    private Tents() {
    }

    static int many(String tent) {
        return tent.split(" ").length - 1;
    }

    /** The same TENT, but for one SLEEPER. */
    static String with(String tent, int i, String item) {
        String[] items = tent.split(" ");
        items[1 + i] = item;
        return String.join(" ", items);
    }

    static String item(String tent, int i) {
        return tent.split(" ")[1 + i];
    }

    /** As it is at first, and with all that can be set, in the first NIGHT and in a later one. */
    static Run[] set(String tent) {
        int last = many(tent) - 1;
        Run x = Run.of(tent);
        Run all = x.again().then("vent", 1).then("turns", 36).then("bottle", last).then("lots", 11).then("bags", 0, last);
        Run later = x.again().then("turns", 2).then("hour").then("hour").then("bottle", last).then("night").then("turns", 36);
        later.then("hour").then("change", 0, last).then("bags", last, last / 2);
        return new Run[] {x, x.again().then("turns", 36).then("lots", 6), x.again().then("turns", 72).then("vent", 1), all, later};
    }
}
