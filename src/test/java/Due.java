/** What was looked at and what was not as due, told with the words of the document that are broken. */
final class Due {
    private static int looks;
    private static int wrong;
    private static String test = "";

    private Due() {
    }

    static void begin(String name) {
        test = name;
        looks = 0;
    }

    static void equal(String what, long got, long want) {
        looks++;
        if (got != want) {
            wrong(what + " answered " + got + ", due is " + want);
        }
    }

    static void holds(String what, boolean holds) {
        looks++;
        if (!holds) {
            wrong(what);
        }
    }

    static void wrong(String what) {
        looks++;
        wrong++;
        System.out.println(test + ": " + what);
    }

    static int looks() {
        return looks;
    }

    static int allWrong() {
        return wrong;
    }
}
