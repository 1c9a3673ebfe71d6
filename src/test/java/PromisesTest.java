/** Each promise of the document by its number: ordinary inputs, the edges that it names, wrong inputs. */
public final class PromisesTest {
    private static final int BAD = TentMiddle.BAD, FULL = TentMiddle.FULL, FINDING = TentMiddle.FINDING;
    private static final int STATE = TentMiddle.STATE, NONE = TentMiddle.NONE;
    private static final int NOTHING = 1, BEYOND = 2, UNLIKE = 3, NOUGHT = 4, SIZE = 5;
    private static final int LEAST = Integer.MIN_VALUE, MOST = Integer.MAX_VALUE;
    /** All warm in every HOUR: only snores, soreness and turns keep one from sleep. */
    private static final String WARM_FIVE = "c00000000 s09 n09 d09 t09 k09";

    private static int wrong;
    private static int promise;

    private static void due(String call, long got, long want) {
        if (got != want) {
            wrong++;
            System.out.println("promise " + promise + ": " + call + " answered " + got + ", due is " + want);
        }
    }

    private static void dueFinding(TentMiddle x, String call, int got, int f) {
        due(call, got, FINDING);
        due(call + ", then finding()", x.finding(), f);
    }

    private static void dueTold(TentMiddle x, String call, int got, int told) {
        due(call, got, 1);
        due(call + ", then asked()", x.asked(), told);
    }

    private static void dueRow(TentMiddle x, int r, int... want) {
        StringBuilder got = new StringBuilder();
        for (int i = 0; x.at(r, i) == 1; i++) {
            got.append(' ').append(x.asked());
        }
        StringBuilder wanted = new StringBuilder();
        for (int v : want) {
            wanted.append(' ').append(v);
        }
        if (!got.toString().equals(wanted.toString())) {
            wrong++;
            System.out.println("promise " + promise + ": row " + r + " is" + got + ", due is" + wanted);
        }
    }

    private static void write(TentMiddle x, int t, String s) {
        x.text(t, s.length());
        for (int i = 0; i < s.length(); i++) {
            x.put(t, i, s.charAt(i));
        }
    }

    private static TentMiddle tentOf(String s) {
        TentMiddle x = new TentMiddle();
        write(x, 0, s);
        x.tent(0);
        return x;
    }

    private static void fillRow(TentMiddle x, int r, int... values) {
        x.row(r, values.length);
        for (int i = 0; i < values.length; i++) {
            x.lay(r, i, values[i]);
        }
    }

    public static void main(String[] args) {
        rowsAndTexts();
        tents();
        settings();
        hours();
        feelings();
        searches();
        outAndWhose();
        chancesAndLots();
        whatIsTold();
        System.out.println(wrong == 0 ? "all promises hold" : wrong + " answers are not as due");
        if (wrong != 0) {
            System.exit(1);
        }
    }

    private static void rowsAndTexts() {
        promise = 1;
        TentMiddle x = new TentMiddle();
        for (int what = 0; what <= 8; what++) {
            due("count(" + what + ")", x.count(what), 0);
        }
        for (int r = 0; r < 6; r++) {
            dueFinding(x, "at(" + r + ", 0)", x.at(r, 0), NOTHING);
        }
        for (int t = 0; t < 4; t++) {
            dueFinding(x, "put(" + t + ", 0, 0)", x.put(t, 0, 0), NOTHING);
        }

        promise = 2;
        x = new TentMiddle();
        due("row(0, 0)", x.row(0, 0), 0);
        due("row(5, 40)", x.row(5, 40), 40);
        dueTold(x, "at(5, 39)", x.at(5, 39), 0);
        due("row(5, 41)", x.row(5, 41), BAD);
        due("row(-1, 3)", x.row(-1, 3), BAD);
        due("row(6, 3)", x.row(6, 3), BAD);
        due("row(6, -1)", x.row(6, -1), BAD);
        due("finding()", x.finding(), 0);
        x.lay(5, 2, 8);
        dueFinding(x, "row(5, -1)", x.row(5, -1), SIZE);
        dueTold(x, "at(5, 2)", x.at(5, 2), 8);
        due("row(5, 3)", x.row(5, 3), 3);
        dueRow(x, 5, 0, 0, 0);

        promise = 3;
        x = new TentMiddle();
        x.row(1, 3);
        dueTold(x, "lay(1, 2, 7)", x.lay(1, 2, 7), 0);
        dueTold(x, "lay(1, 2, MIN)", x.lay(1, 2, LEAST), 7);
        dueTold(x, "lay(1, 0, 4)", x.lay(1, 0, 4), 0);
        dueRow(x, 1, 4, 0, LEAST);
        due("lay(6, 0, 1)", x.lay(6, 0, 1), BAD);
        due("lay(-1, 0, 1)", x.lay(-1, 0, 1), BAD);
        dueFinding(x, "lay(2, 9, 1)", x.lay(2, 9, 1), NOTHING);
        dueFinding(x, "lay(1, 3, 1)", x.lay(1, 3, 1), BEYOND);
        dueFinding(x, "lay(1, -1, 1)", x.lay(1, -1, 1), BEYOND);
        dueRow(x, 1, 4, 0, LEAST);

        promise = 4;
        dueTold(x, "at(1, 0)", x.at(1, 0), 4);
        due("at(6, 0)", x.at(6, 0), BAD);
        due("at(MIN, 0)", x.at(LEAST, 0), BAD);
        dueFinding(x, "at(0, 0)", x.at(0, 0), NOTHING);
        dueFinding(x, "at(1, 3)", x.at(1, 3), BEYOND);
        dueFinding(x, "at(1, MAX)", x.at(1, MOST), BEYOND);
        due("asked()", x.asked(), 4);

        promise = 5;
        due("tear(1)", x.tear(1), 1);
        dueFinding(x, "at(1, 0)", x.at(1, 0), NOTHING);
        dueFinding(x, "tear(1)", x.tear(1), NOTHING);
        due("tear(6)", x.tear(6), BAD);
        due("tear(-1)", x.tear(-1), BAD);
        due("count(6)", x.count(6), 0);

        promise = 6;
        x = new TentMiddle();
        fillRow(x, 0, 1, 2, 3, 4, 5);
        fillRow(x, 1, 9, 9);
        due("copy(0, 0, 0, 1, 4)", x.copy(0, 0, 0, 1, 4), 1);
        dueRow(x, 0, 1, 1, 2, 3, 4);
        due("copy(0, 2, 0, 0, 3)", x.copy(0, 2, 0, 0, 3), 1);
        dueRow(x, 0, 2, 3, 4, 3, 4);
        due("copy(0, 3, 1, 0, 2)", x.copy(0, 3, 1, 0, 2), 1);
        dueRow(x, 1, 3, 4);
        dueRow(x, 0, 2, 3, 4, 3, 4);
        due("copy(0, 5, 1, 2, 0)", x.copy(0, 5, 1, 2, 0), 1);
        dueFinding(x, "copy(0, 6, 1, 0, 0)", x.copy(0, 6, 1, 0, 0), BEYOND);
        dueFinding(x, "copy(0, 3, 1, 0, 3)", x.copy(0, 3, 1, 0, 3), BEYOND);
        dueFinding(x, "copy(0, 0, 1, 1, 2)", x.copy(0, 0, 1, 1, 2), BEYOND);
        dueFinding(x, "copy(0, -1, 1, 0, 1)", x.copy(0, -1, 1, 0, 1), BEYOND);
        dueFinding(x, "copy(0, 0, 1, -1, 1)", x.copy(0, 0, 1, -1, 1), BEYOND);
        dueFinding(x, "copy(0, 1, 1, 1, MAX)", x.copy(0, 1, 1, 1, MOST), BEYOND);
        dueFinding(x, "copy(0, MAX, 1, 0, 1)", x.copy(0, MOST, 1, 0, 1), BEYOND);
        dueFinding(x, "copy(2, 0, 0, 0, 1)", x.copy(2, 0, 0, 0, 1), NOTHING);
        dueFinding(x, "copy(0, 9, 2, 0, 1)", x.copy(0, 9, 2, 0, 1), NOTHING);
        dueFinding(x, "copy(2, 0, 3, 0, -1)", x.copy(2, 0, 3, 0, -1), SIZE);
        due("copy(6, 0, 0, 0, -1)", x.copy(6, 0, 0, 0, -1), BAD);
        due("copy(0, 0, -1, 0, 1)", x.copy(0, 0, -1, 0, 1), BAD);
        dueRow(x, 0, 2, 3, 4, 3, 4);

        promise = 7;
        x = new TentMiddle();
        fillRow(x, 0, 1, 2, 5);
        dueTold(x, "mean(0)", x.mean(0), 2);
        fillRow(x, 0, -1, -2, -5);
        dueTold(x, "mean(0) below nought", x.mean(0), -2);
        fillRow(x, 0, MOST, MOST, MOST);
        dueTold(x, "mean(0) of large ones", x.mean(0), MOST);
        fillRow(x, 0, LEAST, LEAST);
        dueTold(x, "mean(0) of small ones", x.mean(0), LEAST);
        x.row(1, 0);
        dueFinding(x, "mean(1)", x.mean(1), NOUGHT);
        dueFinding(x, "mean(2)", x.mean(2), NOTHING);
        due("mean(6)", x.mean(6), BAD);
        due("mean(-1)", x.mean(-1), BAD);

        promise = 8;
        x = new TentMiddle();
        due("text(3, 60)", x.text(3, 60), 60);
        due("put(3, 59, 1)", x.put(3, 59, 1), 1032);
        due("text(3, 61)", x.text(3, 61), BAD);
        due("text(4, 1)", x.text(4, 1), BAD);
        due("text(-1, 1)", x.text(-1, 1), BAD);
        due("text(4, -1)", x.text(4, -1), BAD);
        due("finding()", x.finding(), 0);
        dueFinding(x, "text(3, -1)", x.text(3, -1), SIZE);
        due("put(3, 59, 2)", x.put(3, 59, 2), 1001);
        due("text(3, 60)", x.text(3, 60), 60);
        due("put(3, 59, 1)", x.put(3, 59, 1), 1032);
        due("text(0, 0)", x.text(0, 0), 0);
        due("count(7)", x.count(7), 2);

        promise = 9;
        x = new TentMiddle();
        x.text(0, 2);
        due("put(0, 1, 127)", x.put(0, 1, 127), 1032);
        due("put(0, 1, 128)", x.put(0, 1, 128), 1127);
        due("put(0, 1, 255)", x.put(0, 1, 255), 872);
        due("put(0, 1, 256 + 99)", x.put(0, 1, 256 + 99), 999);
        due("put(0, 1, 0)", x.put(0, 1, 0), 1099);
        due("asked()", x.asked(), 0);
        dueFinding(x, "put(0, 2, 0)", x.put(0, 2, 0), BEYOND);
        dueFinding(x, "put(0, -1, 0)", x.put(0, -1, 0), BEYOND);
        dueFinding(x, "put(1, 0, 0)", x.put(1, 0, 0), NOTHING);
        due("put(4, 0, 0)", x.put(4, 0, 0), BAD);
        due("put(-1, 0, 0)", x.put(-1, 0, 0), BAD);
    }

    private static void dueFault(String s, int want) {
        TentMiddle x = new TentMiddle();
        write(x, 1, s);
        due("fault of '" + s + "'", x.fault(1), want);
        int sleepers = 0;
        for (int i = 0; i < s.length(); i++) {
            sleepers += s.charAt(i) > 'c' ? 1 : 0;
        }
        due("tent of '" + s + "'", x.tent(1), want == NONE ? sleepers : STATE);
        due("count(0)", x.count(0), want == NONE ? sleepers : 0);
    }

    private static void tents() {
        promise = 10;
        dueFault("", 0);
        dueFault("    ", 4);
        dueFault("c", 1);
        dueFault("c1234567", 8);
        dueFault("c12345678", 9);
        dueFault("c12345678   ", 12);
        dueFault("c12345678 s", 11);
        dueFault("c12345678 s5", 12);
        dueFault("c12345678 s59", NONE);
        dueFault("  c12345678s00n11  d22 ", NONE);
        dueFault("  c12345678   s00 n11 d22 h33 t44", NONE);
        dueFault("c00000000 s00 n11 d22 h33 t44   k55", 32);
        dueFault("c00000000 s00 n11 d22 h33 t44   x", 32);
        dueFault("c00000000s00n11d22h33t44   ", NONE);
        dueFault("s00 c12345678", 0);
        dueFault(" C12345678 s00", 1);
        dueFault("c 12345678 s00", 1);
        dueFault("c1234 5678 s00", 5);
        dueFault("c123456789 s00", 9);
        dueFault("c1234567x s00", 8);
        dueFault("c12345678 x00", 10);
        dueFault("c12345678 s60", 11);
        dueFault("c12345678 s/0", 11);
        dueFault("c12345678 s0:", 12);
        dueFault("c12345678 s 00", 11);
        dueFault("c12345678 s0 0", 12);
        dueFault("c12345678 s000", 13);
        dueFault("c12345678 s00 c12345678", 14);
        dueFault("c12345678 s00\tn00", 13);
        dueFault("c12345678 k59 k59", NONE);
        TentMiddle x = new TentMiddle();
        due("fault(4)", x.fault(4), BAD);
        due("fault(-1)", x.fault(-1), BAD);
        dueFinding(x, "fault(3)", x.fault(3), NOTHING);

        promise = 11;
        x = tentOf(WARM_FIVE);
        x.vent(1);
        x.turns(9);
        x.bottle(2);
        x.change(0, 4);
        x.bags(0, 1);
        x.hour();
        x.night();
        x.keep(1);
        fillRow(x, 2, 4, 5);
        due("tent(4)", x.tent(4), BAD);
        due("tent(-1)", x.tent(-1), BAD);
        dueFinding(x, "tent(1)", x.tent(1), NOTHING);
        x.text(1, 3);
        due("tent(1) with a FAULT", x.tent(1), STATE);
        due("count(1)", x.count(1), 1);
        due("count(8)", x.count(8), 1);
        write(x, 3, "c98765432 h47 s21");
        due("tent(3)", x.tent(3), 2);
        due("now()", x.now(), 0);
        due("the NIGHT", x.asked(), 0);
        due("undo(1)", x.undo(1), BAD);
        for (int what = 1; what <= 5; what++) {
            due("count(" + what + ")", x.count(what), 0);
        }
        due("count(8)", x.count(8), 0);
        dueFinding(x, "on(1)", x.on(1), NOTHING);
        due("the BOTTLE was", x.bottle(1), 0);
        dueRow(x, 2, 4, 5);
        int[][] want = {{3, 8, 7, 0, 0, 0}, {0, 2, 1, 1, 0, 0}};
        for (int i = 0; i < 2; i++) {
            for (int what = 0; what < 6; what++) {
                dueTold(x, "sleeper(" + i + ", " + what + ")", x.sleeper(i, what), want[i][what]);
            }
        }

        promise = 12;
        x = tentOf("c00000000 s19 n28 d37 h46 t55");
        int[] gives = {1, 2, 3, 8, 5};
        for (int i = 0; i < 5; i++) {
            dueTold(x, "KIND of " + i, x.sleeper(i, 0), i);
            dueTold(x, "GIVES of " + i, x.sleeper(i, 1), gives[i]);
            dueTold(x, "BAG of " + i, x.sleeper(i, 2), 9 - i);
            dueTold(x, "PLACE of " + i, x.sleeper(i, 3), i);
        }
        x.hour();
        x.change(4, 1);
        x.hour();
        x.hour();
        // HOUR 0: THUNDER 4 is beside 3, SNORER 1 beside 0; then 4 lies at PLACE 1, 1 at the last one, beside 3
        dueTold(x, "slept 2", x.sleeper(2, 4), 3);
        dueTold(x, "slept 0", x.sleeper(0, 4), 0);
        dueTold(x, "slept 4", x.sleeper(4, 4), 3);
        dueTold(x, "RIM 0", x.sleeper(0, 5), 3);
        dueTold(x, "RIM 1", x.sleeper(1, 5), 2);
        dueTold(x, "RIM 4", x.sleeper(4, 5), 1);
        dueTold(x, "RIM 2", x.sleeper(2, 5), 0);
        due("sleeper(5, 0)", x.sleeper(5, 0), BAD);
        due("sleeper(-1, 0)", x.sleeper(-1, 0), BAD);
        due("sleeper(0, 6)", x.sleeper(0, 6), BAD);
        due("sleeper(0, -1)", x.sleeper(0, -1), BAD);
        due("sleeper(0, 0) without a TENT", new TentMiddle().sleeper(0, 0), BAD);
        String letters = "sndhtk";
        for (int k = 0; k < 6; k++) {
            x = tentOf("c00000000 " + letters.charAt(k) + "00");
            dueTold(x, "KIND of " + letters.charAt(k), x.sleeper(0, 0), k);
        }

        promise = 13;
        x = tentOf("c00000000 n09 s09 t09 s09 k09");
        due("mark(0, 1)", x.mark(0, 1), 1);
        due("mark(2, 1)", x.mark(2, 1), 3);
        due("mark(2, 4)", x.mark(2, 4), 2);
        due("mark(4, 2)", x.mark(4, 2), 1);
        due("mark(4, 5)", x.mark(4, 5), 0);
        x.turns(0b10010001);
        due("mark(4, 5)", x.mark(4, 5), 3);
        dueFinding(x, "mark(1, 1)", x.mark(1, 1), UNLIKE);
        dueFinding(x, "mark(0, 4)", x.mark(0, 4), UNLIKE);
        dueFinding(x, "mark(4, 3)", x.mark(4, 3), UNLIKE);
        due("mark(0, 0)", x.mark(0, 0), BAD);
        due("mark(0, 6)", x.mark(0, 6), BAD);
        due("mark(5, 1)", x.mark(5, 1), BAD);
        due("mark(-1, 1)", x.mark(-1, 1), BAD);
        x = tentOf("c00000000 d09 n09 h39 t09 d09");
        due("mark(0, 2)", x.mark(0, 2), 1);
        due("mark(4, 2)", x.mark(4, 2), 1);
        due("mark(2, 3)", x.mark(2, 3), 12);
        dueFinding(x, "mark(0, 5)", x.mark(0, 5), UNLIKE);
        x.change(2, 4);
        due("mark(2, 3) at the RIM", x.mark(2, 3), 6);
        due("mark(4, 2) in the middle", x.mark(4, 2), 2);
        due("a STOVE alone", tentOf("c00000000 h59").mark(0, 3), 0);
    }

    private static void settings() {
        promise = 14;
        TentMiddle x = tentOf("c00000000 s09");
        due("vent(1)", x.vent(1), 0);
        due("vent(1)", x.vent(1), 1);
        due("count(4)", x.count(4), 1);
        due("vent(2)", x.vent(2), BAD);
        due("vent(-1)", x.vent(-1), BAD);
        due("vent(0)", x.vent(0), 1);
        due("count(4)", x.count(4), 0);
        due("vent(0) without SLEEPERS", new TentMiddle().vent(0), STATE);
        due("vent(2) without SLEEPERS", new TentMiddle().vent(2), BAD);

        promise = 15;
        x = tentOf("c00000000 s09 s09 s09");
        due("bottle(2)", x.bottle(2), 0);
        due("bottle(3)", x.bottle(3), BAD);
        due("bottle(-1)", x.bottle(-1), BAD);
        due("bottle(1)", x.bottle(1), 2);
        due("bottle(0) without SLEEPERS", new TentMiddle().bottle(0), BAD);

        promise = 16;
        due("turns(255)", x.turns(255), 0);
        due("turns(256)", x.turns(256), BAD);
        due("turns(-1)", x.turns(-1), BAD);
        due("count(3)", x.count(3), 255);
        due("turns(0)", x.turns(0), 255);
        due("turns(0) without SLEEPERS", new TentMiddle().turns(0), STATE);
        due("turns(256) without SLEEPERS", new TentMiddle().turns(256), BAD);

        promise = 17;
        x = tentOf("c00000000 s09 s08 s07");
        due("change(0, 2)", x.change(0, 2), 2);
        dueTold(x, "PLACE of 2", x.sleeper(2, 3), 0);
        due("change(0, 1)", x.change(0, 1), 1);
        dueTold(x, "PLACE of 1", x.sleeper(1, 3), 2);
        due("change(1, 1)", x.change(1, 1), 2);
        due("change(3, 0)", x.change(3, 0), BAD);
        due("change(0, 3)", x.change(0, 3), BAD);
        due("change(-1, 0)", x.change(-1, 0), BAD);
        due("change(0, -1)", x.change(0, -1), BAD);

        promise = 18;
        due("bags(0, 2)", x.bags(0, 2), 7);
        dueTold(x, "BAG of 2", x.sleeper(2, 2), 9);
        due("bags(1, 1)", x.bags(1, 1), 8);
        due("bags(3, 0)", x.bags(3, 0), BAD);
        due("bags(0, 3)", x.bags(0, 3), BAD);
        due("bags(-1, 0)", x.bags(-1, 0), BAD);
        due("bags(0, -1)", x.bags(0, -1), BAD);
        dueTold(x, "PLACE of 2 still", x.sleeper(2, 3), 0);

        promise = 19;
        fillRow(x, 0, 1, 2, 0);
        due("lie(0)", x.lie(0), 1);
        dueTold(x, "PLACE of 0", x.sleeper(0, 3), 2);
        dueTold(x, "PLACE of 1", x.sleeper(1, 3), 0);
        dueTold(x, "PLACE of 2", x.sleeper(2, 3), 1);
        fillRow(x, 1, 0, 1, 1);
        dueFinding(x, "lie(1) with one twice", x.lie(1), UNLIKE);
        fillRow(x, 1, 0, 1, 3);
        dueFinding(x, "lie(1) with none such", x.lie(1), UNLIKE);
        fillRow(x, 1, 0, 1, -1);
        dueFinding(x, "lie(1) with one below", x.lie(1), UNLIKE);
        fillRow(x, 1, 0, 1, 32);
        dueFinding(x, "lie(1) with 32", x.lie(1), UNLIKE);
        fillRow(x, 1, 9, 9);
        dueFinding(x, "lie(1) too short", x.lie(1), SIZE);
        fillRow(x, 1, 0, 1, 2, 3);
        dueFinding(x, "lie(1) too long", x.lie(1), SIZE);
        dueFinding(x, "lie(2)", x.lie(2), NOTHING);
        due("lie(6)", x.lie(6), BAD);
        due("lie(-1)", x.lie(-1), BAD);
        dueTold(x, "PLACE of 0 still", x.sleeper(0, 3), 2);
        x = new TentMiddle();
        due("lie(0) without SLEEPERS", x.lie(0), STATE);
        due("finding()", x.finding(), 0);
    }

    private static void hours() {
        promise = 20;
        TentMiddle x = tentOf(WARM_FIVE);
        // 0 and 1 HEAR; 3 and more HOURS without a TURN make all SORE
        int[] asleep = {28, 28, 28, 0, 0, 0, 0, 0};
        for (int h = 0; h < 8; h++) {
            due("HOUR " + h, x.hour(), asleep[h]);
        }
        due("HOUR 8", x.hour(), STATE);
        due("count(1)", x.count(1), 8);
        due("hour() without SLEEPERS", new TentMiddle().hour(), STATE);
        x = tentOf("c00000000 s09");
        for (int k = 0; k < 5; k++) {
            for (int h = 0; h < 8; h++) {
                due("NIGHT " + k + ", HOUR " + h, x.hour(), h < 3 ? 1 : 0);
            }
            due("behind HOUR 7", x.hour(), STATE);
            x.night();
        }
        due("HOUR 40 in all", x.hour(), FULL);
        due("count(1)", x.count(1), 40);
        x = tentOf("c00000000 s09 k09");
        x.turns(0b100100);
        int[] turned = {3, 3, 2, 3, 3, 2, 3, 3};
        for (int h = 0; h < 8; h++) {
            due("HOUR " + h + " with TURNS", x.hour(), turned[h]);
        }

        promise = 21;
        x = tentOf("c00000000 s09");
        x.turns(2);
        x.vent(1);
        x.hour();
        for (int k = 1; k <= 9; k++) {
            due("night() " + k, x.night(), k);
        }
        due("night() 10", x.night(), FULL);
        due("now()", x.now(), 0);
        due("the NIGHT", x.asked(), 9);
        due("the VENT stays", x.count(4), 1);
        due("TURNS stay", x.count(3), 2);
        due("night() without SLEEPERS", new TentMiddle().night(), STATE);

        promise = 22;
        undoing();

        promise = 23;
        x = tentOf("c00000000 s09");
        x.hour();
        x.hour();
        due("now()", x.now(), 2);
        due("the NIGHT", x.asked(), 0);
        for (int h = 2; h < 8; h++) {
            x.hour();
        }
        due("now() behind HOUR 7", x.now(), 8);
        x.night();
        due("now()", x.now(), 0);
        due("the NIGHT", x.asked(), 1);
        due("now() without SLEEPERS", new TentMiddle().now(), STATE);

        promise = 24;
        x = tentOf(WARM_FIVE);
        due("keep(0)", x.keep(0), 0);
        x.hour();
        x.hour();
        due("keep(2)", x.keep(2), 2);
        due("count(8)", x.count(8), 2);
        due("keep(3)", x.keep(3), BAD);
        due("keep(-1)", x.keep(-1), BAD);
        due("keep(0) without SLEEPERS", new TentMiddle().keep(0), STATE);
        due("keep(3) without SLEEPERS", new TentMiddle().keep(3), BAD);

        promise = 25;
        goingOn();
    }

    private static void undoing() {
        TentMiddle x = tentOf("c00000000 s09 s08 s07");
        x.hour();
        x.change(0, 1);
        x.vent(1);
        x.turns(4);
        x.bottle(2);
        x.bags(0, 2);
        x.night();
        long aheadOfSecond = x.digest();
        x.hour();
        x.change(1, 2);
        x.vent(0);
        x.turns(8);
        x.bottle(1);
        x.bags(0, 1);
        x.hour();
        x.night();
        long last = x.digest();
        due("undo(3): none", x.undo(3), 0);
        due("all stays", x.digest(), last);
        due("undo(4)", x.undo(4), BAD);
        due("undo(-1)", x.undo(-1), BAD);
        due("undo(1)", x.undo(1), 2);
        due("as it was ahead of it", x.digest(), aheadOfSecond);
        due("now()", x.now(), 0);
        due("the NIGHT", x.asked(), 1);
        due("undo(0)", x.undo(0), 1);
        dueTold(x, "PLACE of 0", x.sleeper(0, 3), 0);
        dueTold(x, "BAG of 0", x.sleeper(0, 2), 9);
        dueTold(x, "slept by 0", x.sleeper(0, 4), 0);
        dueTold(x, "RIM of 0", x.sleeper(0, 5), 0);
        due("the BOTTLE was", x.bottle(0), 0);
        due("TURNS were", x.turns(0), 0);
        due("the VENT was", x.vent(0), 0);
        x.change(0, 2);
        due("undo(0) of none", x.undo(0), 0);
        dueTold(x, "PLACE of 0 stays", x.sleeper(0, 3), 2);
        due("undo(0) without SLEEPERS", new TentMiddle().undo(0), 0);
        due("undo(1) without SLEEPERS", new TentMiddle().undo(1), BAD);
        x = tentOf("c00000000 s09 s08");
        for (int k = 0; k < 39; k++) {
            due("hour() " + k, x.hour(), k % 8 < 3 ? 3 : 0);
            if (k % 8 == 7) {
                x.night();
            }
        }
        x.change(0, 1);
        x.bottle(1);
        long aheadOfLast = x.digest();
        x.hour();
        x.bags(0, 1);
        x.change(0, 1);
        x.bottle(0);
        due("undo(39)", x.undo(39), 1);
        due("as it was ahead of the last of 40 HOURS", x.digest(), aheadOfLast);
        x = tentOf("c00000000 s09");
        x.keep(0);
        x.hour();
        x.keep(1);
        due("undo(0)", x.undo(0), 1);
        due("kept TENTS stay", x.count(8), 2);
        due("on(1)", x.on(1), 1);
    }

    private static void goingOn() {
        TentMiddle x = tentOf(WARM_FIVE);
        dueFinding(x, "on(1)", x.on(1), NOTHING);
        x.hour();
        x.change(0, 4);
        x.turns(2);
        x.hour();
        x.night();
        x.keep(1);
        long kept = x.digest();
        x.undo(0);
        x.vent(1);
        x.bags(0, 1);
        x.hour();
        due("on(1)", x.on(1), 2);
        due("as it was kept", x.digest(), kept);
        due("undo(0)", x.undo(0), 2);
        dueTold(x, "PLACE of 0 ahead of all HOURS", x.sleeper(0, 3), 0);
        due("on(1) once more", x.on(1), 2);
        due("as it was kept", x.digest(), kept);
        due("undo(1)", x.undo(1), 1);
        dueTold(x, "PLACE of 0 ahead of HOUR 1", x.sleeper(0, 3), 4);
        dueFinding(x, "on(0)", x.on(0), NOTHING);
        dueFinding(x, "on(2)", x.on(2), NOTHING);
        due("on(3)", x.on(3), BAD);
        due("on(-1)", x.on(-1), BAD);
        fillRow(x, 0, 6);
        x.on(1);
        dueRow(x, 0, 6);
    }

    private static void feelings() {
        promise = 26;
        TentMiddle x = tentOf("c01234567 s14 h26 s39");
        // HOUR 0: 4 + 4 + 3 - 0 - 2; HOUR 3: the BOTTLE is at PLACE 0 again, half of 3 is 1: 4 + 4 + 3 - 3 - 2 - 1
        dueTold(x, "feels(0, 0)", x.feels(0, 0), 9);
        dueTold(x, "feels(0, 3)", x.feels(0, 3), 5);
        dueTold(x, "feels(0, 7)", x.feels(0, 7), -4);
        dueTold(x, "feels(1, 0)", x.feels(1, 0), 10);
        dueTold(x, "feels(1, 7)", x.feels(1, 7), 6);
        dueTold(x, "feels(2, 5)", x.feels(2, 5), 9 + 4 + 3 - 5 - 2 - 2);
        x.vent(1);
        dueTold(x, "feels(0, 7), VENT open", x.feels(0, 7), 4 + 4 - 7 - 2 - 2);
        dueTold(x, "feels(1, 7), VENT open", x.feels(1, 7), 4);
        x.bottle(2);
        dueTold(x, "feels(0, 7), BOTTLE from 2", x.feels(0, 7), 4 + 4 + 3 - 7 - 2 - 2);
        dueTold(x, "feels(0, 1), BOTTLE from 2", x.feels(0, 1), 4 + 4 + 3 - 1 - 2 - 2);
        due("feels(3, 0)", x.feels(3, 0), BAD);
        due("feels(-1, 0)", x.feels(-1, 0), BAD);
        due("feels(0, 8)", x.feels(0, 8), BAD);
        due("feels(0, -1)", x.feels(0, -1), BAD);
        x = tentOf("c00000000 s55");
        dueTold(x, "one alone is once at the RIM", x.feels(0, 6), 5 + 3 - 2 - 3);

        promise = 27;
        x = tentOf("c00000090 n09 s00 k09");
        due("why(1, 0)", x.why(1, 0), 2);
        due("why(0, 0)", x.why(0, 0), 0);
        due("why(0, 2)", x.why(0, 2), 0);
        due("why(0, 3)", x.why(0, 3), 4);
        x.turns(0b1001000);
        due("why(0, 2)", x.why(0, 2), 0);
        due("why(0, 3)", x.why(0, 3), 8);
        due("why(2, 3)", x.why(2, 3), 0);
        due("why(0, 5)", x.why(0, 5), 0);
        due("why(0, 6)", x.why(0, 6), 8 + 1);
        due("why(1, 6)", x.why(1, 6), 8 + 2 + 1);
        x.turns(1);
        due("why(0, 0)", x.why(0, 0), 8);
        due("why(2, 3): a STONE is SORE", x.why(2, 3), 4);
        due("why(1, 6)", x.why(1, 6), 4 + 2 + 1);
        due("why(3, 0)", x.why(3, 0), BAD);
        due("why(-1, 0)", x.why(-1, 0), BAD);
        due("why(0, 8)", x.why(0, 8), BAD);
        due("why(0, -1)", x.why(0, -1), BAD);
        x = tentOf("c00000000 t09 s09 s09 s09 d09");
        due("why(1, 0): just beside", x.why(1, 0), 2);
        due("why(2, 0): two off", x.why(2, 0), 2);
        due("why(3, 0): three off", x.why(3, 0), 0);
        due("why(0, 0): nobody oneself", x.why(0, 0), 0);
        x.change(4, 1);
        due("why(4, 0): DEAF", x.why(4, 0), 0);

        promise = 28;
        x = tentOf("c30000000 s01 s09 n09");
        // HOUR 0: 0 FEELS 1 + 0 + 3 - 3 - 2; 1 HEARS; 2 is warm
        due("sleeps(0)", x.sleeps(0), 0b100);
        due("who is COLD", x.asked(), 0b001);
        due("sleeps(1)", x.sleeps(1), 0b100);
        due("who is COLD", x.asked(), 0b001);
        x.bags(0, 1);
        due("sleeps(1)", x.sleeps(1), 0b101);
        due("who is COLD", x.asked(), 0);
        due("sleeps(8)", x.sleeps(8), BAD);
        due("sleeps(-1)", x.sleeps(-1), BAD);
        x = new TentMiddle();
        due("sleeps(0) without SLEEPERS", x.sleeps(0), 0);

        promise = 29;
        x = tentOf("c00900000 s09 s09 k09");
        due("slept(0)", x.slept(0), 2);
        x.turns(0b100100);
        due("slept(0)", x.slept(0), 6);
        due("slept(1)", x.slept(1), 6);
        due("slept(2)", x.slept(2), 8);
        due("slept(3)", x.slept(3), BAD);
        due("slept(-1)", x.slept(-1), BAD);

        promise = 30;
        x = tentOf("c00900900 s05 s04 s06");
        // at PLACE 1 HOURS 2 and 5 cost 9; at the RIM HOUR 5 costs 4 more, but the BOTTLE goes round
        due("coldest()", x.coldest(), 0);
        due("in HOUR", x.asked(), 5);
        x = tentOf("c09999999 s00 s00 s00 s00");
        x.vent(1);
        due("coldest() of alike ones", x.coldest(), 0);
        due("in HOUR", x.asked(), 1);
        x.bottle(3);
        due("coldest() of alike ones", x.coldest(), 0);
        due("in HOUR, the first without the BOTTLE", x.asked(), 2);
        x = tentOf("c99999999 s30 s01 s31 s10");
        x.vent(1);
        due("coldest() at the first PLACE", x.coldest(), 0);
        due("in HOUR, the first without the BOTTLE", x.asked(), 1);
        due("coldest() without SLEEPERS", new TentMiddle().coldest(), STATE);

        promise = 31;
        x = tentOf("c00000000 s00 n50 s00");
        // 0 and 2 HEAR: without 1 they are at the RIM and FEEL -2, but for the BOTTLE in HOURS 0 and 2
        dueTold(x, "good(1)", x.good(1), -2);
        dueTold(x, "good(0)", x.good(0), 0);
        x = tentOf("c00000000 s00 h50 s00");
        dueTold(x, "good(1)", x.good(1), 6 - 2);
        x = tentOf("c00000000 d00 n50 s00");
        dueTold(x, "good(1)", x.good(1), 2 - 1);
        due("good(3)", x.good(3), BAD);
        due("good(-1)", x.good(-1), BAD);

        promise = 32;
        x = tentOf(WARM_FIVE);
        due("worth()", x.worth(), 9);
        due("least", x.asked(), 0);
        x = tentOf("c00000000 s09 k09 s09");
        x.turns(0b100100);
        due("worth()", x.worth(), 6 + 8 + 6);
        due("least", x.asked(), 6);
        due("worth() without SLEEPERS", new TentMiddle().worth(), STATE);
    }

    private static void searches() {
        promise = 33;
        TentMiddle x = tentOf("c00000000 n09 s09 s09 s09");
        // the SNORER at a rim wakes one; 0 1 2 3 is the first of these
        due("best(0)", x.best(0), 9);
        dueRow(x, 0, 0, 1, 2, 3);
        x = tentOf("c00000000 s09 n09 d09");
        // only the DEAF one may lie beside the SNORER: 0 2 1 is ahead of 1 2 0
        due("best(5)", x.best(5), 9);
        dueRow(x, 5, 0, 2, 1);
        dueTold(x, "they lie as they did", x.sleeper(2, 3), 2);
        due("best(6)", x.best(6), BAD);
        due("best(-1)", x.best(-1), BAD);
        due("best(0) without SLEEPERS", new TentMiddle().best(0), STATE);
        due("best(6) without SLEEPERS", new TentMiddle().best(6), BAD);

        promise = 34;
        x = tentOf("c00000000 s00 s02 s05 s09");
        // at the RIM one needs a BAG of 3 for HOUR 2, so 2 and 3 lie there
        due("fair(1)", x.fair(1), 3);
        dueRow(x, 1, 2, 0, 1, 3);
        x = tentOf("c00000000 n09 s09");
        due("fair(1)", x.fair(1), 0);
        dueRow(x, 1, 0, 1);
        due("fair(6)", x.fair(6), BAD);
        due("fair(-1)", x.fair(-1), BAD);
        due("fair(0) without SLEEPERS", new TentMiddle().fair(0), STATE);

        promise = 35;
        x = tentOf("c00000000 s09 s09");
        // two TURNS do for a NIGHT: HOURS 2 and 5 are the least such set (36)
        due("turning()", x.turning(), 0b100100);
        due("WORTH", x.asked(), 12);
        due("TURNS stay", x.count(3), 0);
        x = tentOf("c00000000 k09 k09");
        due("turning() of STONES, whom no TURN wakes", x.turning(), 0b100100);
        due("WORTH", x.asked(), 16);
        x = tentOf("c99999999 s00");
        due("turning() of cold ones", x.turning(), 0);
        due("WORTH", x.asked(), 0);
        due("turning() without SLEEPERS", new TentMiddle().turning(), STATE);

        promise = 36;
        x = tentOf("c30000000 s00 s00 s00");
        // HOUR 0: only the middle one with the BOTTLE SLEEPS (3 - 3); HOURS 1, 2: the middle one, and who has it
        due("warm()", x.warm(), 1);
        due("WORTH", x.asked(), 1 + 2 + 2);
        due("the BOTTLE stays", x.bottle(0), 0);
        x = tentOf("c00000000 s09 s09 s09");
        due("warm() of alike ones", x.warm(), 0);
        due("WORTH", x.asked(), 9);
        due("warm() without SLEEPERS", new TentMiddle().warm(), STATE);

        promise = 37;
        x = tentOf("c22222222 s00 s09 s09");
        // the one without a BAG is to lie in the middle: it FEELS -2 there, 1 with the BOTTLE
        due("thin(3)", x.thin(3), 3 + 1 + 3);
        dueRow(x, 3, 1, 0, 2);
        dueTold(x, "BAGS stay", x.sleeper(0, 2), 0);
        x = tentOf("c00000000 s09 s09 s09");
        due("thin(3) of alike ones", x.thin(3), 9);
        dueRow(x, 3, 0, 1, 2);
        due("thin(6)", x.thin(6), BAD);
        due("thin(-1)", x.thin(-1), BAD);
        due("thin(0) without SLEEPERS", new TentMiddle().thin(0), STATE);

        promise = 38;
        planning();

        promise = 39;
        x = tentOf("c00000000 s09 s09 s09 s09 s09");
        due("nth(0, 0)", x.nth(0, 0), 1);
        dueRow(x, 0, 0, 1, 2, 3, 4);
        due("nth(1, 0)", x.nth(1, 0), 1);
        dueRow(x, 0, 0, 1, 2, 4, 3);
        due("nth(24, 0)", x.nth(24, 0), 1);
        dueRow(x, 0, 1, 0, 2, 3, 4);
        due("nth(119, 0)", x.nth(119, 0), 1);
        dueRow(x, 0, 4, 3, 2, 1, 0);
        dueFinding(x, "nth(120, 0)", x.nth(120, 0), NOUGHT);
        dueFinding(x, "nth(MAX, 0)", x.nth(MOST, 0), NOUGHT);
        dueRow(x, 0, 4, 3, 2, 1, 0);
        due("nth(-1, 0)", x.nth(-1, 0), BAD);
        due("nth(0, 6)", x.nth(0, 6), BAD);
        due("nth(120, 6)", x.nth(120, 6), BAD);
        due("nth(200, 0) without SLEEPERS", new TentMiddle().nth(200, 0), STATE);
        due("nth(-1, 0) without SLEEPERS", new TentMiddle().nth(-1, 0), BAD);
        x = tentOf("c00000000 s09");
        due("nth(0, 0) of one", x.nth(0, 0), 1);
        dueRow(x, 0, 0);
        dueFinding(x, "nth(1, 0) of one", x.nth(1, 0), NOUGHT);
    }

    private static void planning() {
        TentMiddle x = tentOf("c00000000 n09 s09 s09");
        // SNORER 0 at a rim wakes the one in the middle: 0 1 2 (number 0) wakes 1, 0 2 1 (number 1) wakes 2
        due("nights(1, 0)", x.nights(1, 0), 0);
        dueRow(x, 0, 0);
        due("nights(2, 0)", x.nights(2, 0), 3);
        dueRow(x, 0, 0, 1);
        due("nights(3, 0)", x.nights(3, 0), 3);
        dueRow(x, 0, 0, 0, 1);
        x = tentOf("c00000000 s09 s09");
        due("nights(3, 5) of alike ones", x.nights(3, 5), 9);
        dueRow(x, 5, 0, 0, 0);
        due("nights(0, 0)", x.nights(0, 0), BAD);
        due("nights(4, 0)", x.nights(4, 0), BAD);
        due("nights(1, 6)", x.nights(1, 6), BAD);
        due("nights(1, -1)", x.nights(1, -1), BAD);
        due("nights(1, 0) without SLEEPERS", new TentMiddle().nights(1, 0), STATE);
        due("nights(4, 0) without SLEEPERS", new TentMiddle().nights(4, 0), BAD);
    }

    private static void outAndWhose() {
        promise = 40;
        TentMiddle x = tentOf(WARM_FIVE);
        due("out(0)", x.out(0), 0);
        due("over", x.asked(), 0);
        due("out(4)", x.out(4), 4);
        due("over", x.asked(), 0b1111);
        x.change(4, 1);
        due("out(3)", x.out(3), 3);
        due("over all but the STONE", x.asked(), 0b00101);
        due("out(5)", x.out(5), BAD);
        due("out(-1)", x.out(-1), BAD);
        due("out(0) without SLEEPERS", new TentMiddle().out(0), BAD);

        promise = 41;
        x = tentOf("c00000000 s09 s09 s09 s09 s09");
        fillRow(x, 0, 0, 1, 0, 1, 0);
        due("whose(0)", x.whose(0), 0b00100);
        due("like a THUNDER", x.asked(), 0);
        fillRow(x, 0, 1, 1, 0, 1, 1);
        due("whose(0)", x.whose(0), 0);
        due("like a THUNDER", x.asked(), 0b00100);
        fillRow(x, 0, NONE, 1, NONE, NONE, NONE);
        due("whose(0)", x.whose(0), 0b00101);
        due("like a THUNDER", x.asked(), 0b01101);
        fillRow(x, 0, 0, 0, 0, 0, 0);
        due("whose(0) of none", x.whose(0), 0);
        x.change(0, 2);
        fillRow(x, 0, 0, 1, 0, 1, 0);
        due("whose(0) goes by PLACES", x.whose(0), 0b00001);
        x = tentOf("c00000000 s09 d09 n09 k09");
        fillRow(x, 0, 0, 0, 0, 0);
        due("those who HEAR none do not hear it", x.whose(0), 0b0101);
        due("like a THUNDER", x.asked(), 0);
        fillRow(x, 1, 0, 0, 0);
        dueFinding(x, "whose(1) too short", x.whose(1), SIZE);
        fillRow(x, 1, 0, 0, 0, 2);
        dueFinding(x, "whose(1) of 2", x.whose(1), UNLIKE);
        fillRow(x, 1, 0, -1, 0, 1);
        dueFinding(x, "whose(1) of -1", x.whose(1), UNLIKE);
        fillRow(x, 1, 7, 7, 7, 7, 7);
        dueFinding(x, "whose(1) too long", x.whose(1), SIZE);
        dueFinding(x, "whose(2)", x.whose(2), NOTHING);
        due("whose(6)", x.whose(6), BAD);
        due("whose(-1)", x.whose(-1), BAD);
        x = new TentMiddle();
        due("whose(0) without SLEEPERS", x.whose(0), STATE);
        due("whose(6) without SLEEPERS", x.whose(6), BAD);

        promise = 42;
        x = tentOf("c00000000 s09 s09 s09");
        due("kinds(0, 9): 0, 2, 3, 5 snore not", x.kinds(0, 9), 0b101101);
        due("kinds(0, 6): a SNORER wakes one", x.kinds(0, 6), 0b000010);
        due("kinds(0, 3): a THUNDER wakes two", x.kinds(0, 3), 0b010000);
        due("kinds(0, 0)", x.kinds(0, 0), 0);
        due("kinds(0, -1)", x.kinds(0, -1), 0);
        x.turns(0b100100);
        due("kinds(1, 20): a STONE is not WOKEN", x.kinds(1, 20), 0b100000);
        dueTold(x, "the KIND stays", x.sleeper(1, 0), 0);
        x = tentOf("c05555555 s05 h10 s05");
        // HOUR 0: all three; HOUR 1: those at the rim, if 2 are GIVEN; HOUR 2: the last one has the BOTTLE
        due("kinds(1, 6): a STOVE GIVES twice", x.kinds(1, 6), 0b001000);
        due("kinds(1, 4): no STOVE", x.kinds(1, 4), 0b100101);
        due("kinds(1, 1): who snores", x.kinds(1, 1), 0b010010);
        due("kinds(3, 0)", x.kinds(3, 0), BAD);
        due("kinds(-1, 0)", x.kinds(-1, 0), BAD);
    }

    private static void dueOdds(TentMiddle x, int i, int hour, int p, long upper, long lower) {
        String call = "odds(" + i + ", " + hour + ", " + p + ")";
        due(call, x.odds(i, hour, p), 1);
        due(call + ", then upper()", x.upper(), upper);
        due(call + ", then lower()", x.lower(), lower);
    }

    private static void chancesAndLots() {
        promise = 43;
        TentMiddle x = tentOf("c00000000 s09 s09 k09 s09 s09");
        dueOdds(x, 4, 0, 5, 7, 12);
        dueOdds(x, 3, 0, 5, 49, 144);
        dueOdds(x, 0, 0, 5, 16807, 248832);
        dueOdds(x, 2, 0, 5, 7, 12);
        dueOdds(x, 2, 0, 4, 2, 3);
        dueOdds(x, 3, 0, 6, 1, 4);
        dueOdds(x, 0, 0, 0, 1, 1);
        dueOdds(x, 0, 0, 12, 0, 1);
        dueOdds(x, 0, 3, 0, 0, 1);
        x.change(0, 4);
        dueOdds(x, 0, 0, 3, 3, 4);
        due("odds(5, 0, 0)", x.odds(5, 0, 0), BAD);
        due("odds(-1, 0, 0)", x.odds(-1, 0, 0), BAD);
        due("odds(0, 8, 0)", x.odds(0, 8, 0), BAD);
        due("odds(0, -1, 0)", x.odds(0, -1, 0), BAD);
        due("odds(0, 0, 13)", x.odds(0, 0, 13), BAD);
        due("odds(0, 0, -1)", x.odds(0, 0, -1), BAD);
        due("upper() stays", x.upper(), 3);

        promise = 44;
        x = tentOf("c00000000 n09 s09 s09");
        // 48271 % 3 = 1; 48271 * 48271 % 2147483647 = 182605794, % 2 = 0: they lie 1 0 2
        due("lots(1)", x.lots(1), 3);
        dueTold(x, "PLACE of 0", x.sleeper(0, 3), 1);
        dueTold(x, "PLACE of 1", x.sleeper(1, 3), 0);
        dueTold(x, "PLACE of 2", x.sleeper(2, 3), 2);
        // 2147435376 % 3 = 0; 1964877853 % 2 = 1: they lie 0 2 1
        due("lots(MAX - 1)", x.lots(MOST - 1), 6);
        dueTold(x, "PLACE of 0", x.sleeper(0, 3), 0);
        due("lots(MAX)", x.lots(MOST), BAD);
        due("lots(0)", x.lots(0), BAD);
        due("lots(-1)", x.lots(-1), BAD);
        due("lots(1) without SLEEPERS", new TentMiddle().lots(1), STATE);
        due("lots(0) without SLEEPERS", new TentMiddle().lots(0), BAD);
    }

    private static void whatIsTold() {
        promise = 45;
        TentMiddle x = new TentMiddle();
        due("asked() before", x.asked(), 0);
        x = tentOf(WARM_FIVE);
        due("asked() before", x.asked(), 0);
        fillRow(x, 0, 77);
        x.at(0, 0);
        x.at(0, 1);
        x.mean(1);
        x.sleeper(9, 9);
        x.feels(0, 9);
        x.sleeps(9);
        x.good(9);
        x.out(9);
        x.whose(0);
        x.row(1, 2);
        x.best(1);
        x.fair(1);
        x.thin(1);
        x.nights(2, 1);
        x.nth(3, 1);
        x.mark(1, 1);
        x.kinds(0, 1);
        x.odds(0, 0, 1);
        x.lots(5);
        x.hour();
        x.night();
        x.keep(0);
        x.on(0);
        x.undo(0);
        x.tent(0);
        due("asked() of at()", x.asked(), 77);

        promise = 46;
        x = new TentMiddle();
        due("upper() before", x.upper(), 0);
        promise = 47;
        due("lower() before", x.lower(), 1);
        x = tentOf("c00000000 s09");
        x.odds(0, 0, 3);
        x.odds(0, 0, 13);
        x.tent(0);
        promise = 46;
        due("upper()", x.upper(), 3);
        promise = 47;
        due("lower()", x.lower(), 4);
        x.odds(0, 7, 0);
        promise = 46;
        due("upper()", x.upper(), 0);
        promise = 47;
        due("lower()", x.lower(), 1);

        promise = 48;
        x = tentOf(WARM_FIVE);
        x.hour();
        x.hour();
        x.night();
        x.turns(200);
        x.vent(1);
        x.row(3, 3);
        x.row(4, 0);
        x.row(5, 0);
        x.text(2, 0);
        x.text(3, 1);
        x.keep(2);
        int[] counts = {5, 2, 1, 200, 1, 2, 3, 3, 1};
        for (int what = 0; what < counts.length; what++) {
            due("count(" + what + ")", x.count(what), counts[what]);
        }
        due("count(9)", x.count(9), BAD);
        due("count(-1)", x.count(-1), BAD);

        promise = 49;
        x = new TentMiddle();
        due("finding() before", x.finding(), 0);
        x.at(0, 0);
        due("finding()", x.finding(), NOTHING);
        x.at(9, 0);
        x.vent(0);
        due("finding() behind BAD and STATE", x.finding(), NOTHING);
        x.row(0, -1);
        due("finding()", x.finding(), SIZE);
        x.row(0, 1);
        due("finding() behind what was not refused", x.finding(), SIZE);

        promise = 50;
        x = tentOf("c00000000 s09");
        int[] often = {2, 3, 1, 2, 4};
        for (int k = 0; k < 2; k++) {
            x.tear(0);
            x.nth(1, 0);
        }
        x.row(0, 0);
        for (int k = 0; k < 3; k++) {
            x.at(0, 0);
        }
        x.mark(0, 1);
        for (int k = 0; k < 4; k++) {
            x.text(0, -1);
        }
        for (int f = 1; f <= 5; f++) {
            due("findings(" + f + ")", x.findings(f), often[f - 1]);
        }
        due("findings(0)", x.findings(0), BAD);
        due("findings(6)", x.findings(6), BAD);

        promise = 51;
        digests();
    }

    private static void digests() {
        TentMiddle x = new TentMiddle();
        int[] none = {0, 0, 0, 0, 0, 0, 0, 0, 0, 0, -1, -1, -1, -1, -1, -1, -1, -1, -1, -1, -1, -1, -1};
        due("digest() of a new object", x.digest(), hash(none));
        x = tentOf("c00000000 h19 t28");
        x.turns(2);
        x.vent(1);
        x.bottle(1);
        x.change(0, 1);
        x.hour();
        x.night();
        x.keep(1);
        fillRow(x, 4, -7, 8);
        x.text(0, 0);
        x.text(2, 3);
        x.put(2, 1, 200);
        int[] some = {2, 1, 1, 2, 1, 1, 1, 2, 1, 1,
            3, 2, 9, 1, 0, 1, 4, 2, 8, 0, 1, 1,
            -1, 1, -1,
            -1, -1, -1, -1, 2, -7, 8, -1,
            0, -1, 3, 32, -56, 32, -1};
        due("digest()", x.digest(), hash(some));
        x.at(4, 0);
        x.at(5, 0);
        due("digest() again", x.digest(), hash(some));
    }

    private static long hash(int[] values) {
        long h = 17;
        for (int v : values) {
            h = 31 * h + v;
        }
        return h;
    }
}
