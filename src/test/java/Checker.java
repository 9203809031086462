/** Prints every answer that is not the one that is due, and ends a test with exit code 1 if there was one. */
final class Checker {
    private String about = "";
    private int looked;
    private int wrong;

    void about(String title) {
        about = title;
    }

    void due(String call, long got, long want) {
        looked++;
        if (got != want) {
            wrong++;
            System.out.println(about + ": " + call + " answered " + got + ", due is " + want);
        }
    }

    void holds(String what, boolean is) {
        due(what, is ? 1 : 0, 1);
    }

    int wrong() {
        return wrong;
    }

    void end() {
        System.out.println(looked + " answers looked at, " + wrong + " wrong");
        if (wrong != 0 || looked == 0) {
            System.exit(1);
        }
    }

    /** Feeds a text, sign by sign, and makes it a statute. */
    static int statute(CarpetsLaw x, String text) {
        feed(x, text);
        return x.statute();
    }

    static void feed(CarpetsLaw x, String text) {
        for (int i = 0; i < text.length(); i++) {
            x.feed(text.charAt(i));
        }
    }

    /** All cells get the same wear. */
    static void wearAll(CarpetsLaw x, int n) {
        for (int cell = 0; cell < 25; cell++) {
            x.wear(cell, n);
        }
    }
}
