/** The edges of a statute's text: its clauses, numbers, tests, nesting, its FAULT, and how many there may be. */
public final class EdgesOfStatutesTest {
    private static final Checker CHECK = new Checker();
    private static final String SIGNS_OF_TEXTS = "bdarwl 0159;|&!()pkvcwh<=>x\0\n";

    public static void main(String[] args) {
        textLength();
        clauses();
        blanks();
        digits();
        expressions();
        letters();
        wearByTen();
        hourByTen();
        nesting();
        faultAtEnd();
        faultsOfOneSign();
        newestHolds();
        faultLeavesNothing();
        sixAtMost();
        CHECK.end();
    }

    private static Script run(String... steps) {
        return Script.run(CHECK, steps);
    }

    private static void good(String text) {
        run("law " + text + " = 0", "count 1 = 1", "count 5 = 0");
    }

    private static void fault(String text, int place) {
        run("law " + text + " = " + (-10 - place), "count 1 = 0", "count 5 = 0", "told 1 = 95");
    }

    private static void textLength() {
        CHECK.says("A STATUTE is read from THE TEXT (bytes, 100 at most)");
        String longest = "draw 10 " + "p=1|".repeat(22) + "p=10";
        CHECK.due("its length", longest.length(), 100);
        good(longest);
        // The sign that does not come any more is missed: the text that is there is read.
        run("one 0 0 0", "law " + longest + "|p=0 = 0", "pull 0 3 = 5", "count 5 = 0");
        fault("draw 1 " + "p=1|".repeat(23) + "|", 99);
        fault("draw 10 " + "p=1|".repeat(23), 100);
        fault("draw 10 " + "p=1|".repeat(22) + "p=1;", 100);
        Script x = run().each(1, 100, "feed 48 = #").times(3, "feed 48 = FULL");
        x.then("feed -1 = BAD", "feed 128 = BAD", "count 5 = 100", "statute = -10", "count 5 = 0", "feed 98 = 1");
        run("statute = -10", "count 5 = 0");
    }

    private static void clauses() {
        CHECK.says("CLAUSES, 1 to 10, with ; between: draw n E; bar n E; bald n");
        String text = "";
        for (int n = 1; n <= 11; n++) {
            text += (n == 1 ? "" : ";") + "bald " + n % 10;
            if (n <= 10) {
                run("law " + text + " = 0", "told 1 = " + n % 10);
            } else {
                fault(text, 69);
            }
        }
        fault("", 0);
        fault(";", 0);
        fault(";bald 5", 0);
        fault("bald 5;", 7);
        fault("bald 5;;bald 5", 7);
        fault("bald 5,bald 5", 6);
        fault("draw 1 p=0;", 11);
        fault("bar 1 p=0;", 10);
        String nine = "draw 1 p=0;".repeat(8) + "bar 1 p=0";
        fault(nine + ";", 98);
        good(nine);
        String ten = "bar 1 p=0;".repeat(9) + "bar 1 p=0";
        run("one 0 0 0", "law " + ten + " = 0", "pull 0 0 = -5");
        fault(ten + ";", 99);
    }

    private static void blanks() {
        CHECK.says("(one blank ahead of each part behind the word; n 1 or 2 digits).");
        fault("draw1 p=0", 4);
        fault("draw  1 p=0", 5);
        fault("draw 1p=0", 6);
        fault("draw 12p=0", 7);
        fault("draw 1  p=0", 7);
        fault("draw 1 p=0 ", 10);
        fault("draw 1 p =0", 8);
        fault("draw 1 p= 0", 9);
        fault("draw 1 p=0 &p=0", 10);
        fault("draw 1 p=0& p=0", 11);
        fault("draw 1 ( p=0)", 8);
        fault("draw 1 (p=0 )", 11);
        fault("draw 1 ! p=0", 8);
        fault(" draw 1 p=0", 0);
        fault("draw 1 p=0 ;bald 1", 10);
        fault("draw 1 p=0; bald 1", 11);
        fault("bar1 p=0", 3);
        fault("bar  1 p=0", 4);
        fault("bar 1p=0", 5);
        fault("bar 1  p=0", 6);
        fault("bald5", 4);
        fault("bald  5", 5);
        fault("bald 5 ", 6);
        fault("bald 55 ", 7);
        fault("bald\t5", 4);
        fault("draw 1\np=0", 6);
    }

    private static void digits() {
        int[] numbers = {0, 1, 9, 10, 99};
        for (int n : numbers) {
            run("one 0 0 0", "law bald " + n + " = 0", "told 1 = " + n);
            run("one 0 0 0", "law draw " + n + " p=0 = 0", "pull 0 9 = " + (5 + n));
            run("one 0 0 0", "law bar " + n + " p=0 = 0", "pull 0 9 = " + (5 - n));
        }
        run("one 0 0 0", "law draw 09 p=0 = 0", "pull 0 9 = 14", "law bald 00 = 1", "told 1 = 0", "law bald 05 = 2",
            "told 1 = 5", "law bar 00 p=00 = 3", "pull 0 9 = 5");
        fault("bald 100", 7);
        fault("bald 000", 7);
        fault("draw 100 p=0", 7);
        fault("bar 100 p=0", 6);
        fault("bald -1", 5);
        fault("bald +1", 5);
        fault("bald /", 5);
        fault("bald :", 5);
        fault("bald 1/", 6);
        fault("bald 1:", 6);
        fault("draw 1 c=100", 11);
        fault("draw 1 c=-1", 9);
        fault("draw 1 c=/", 9);
        fault("draw 1 c=:", 9);
        fault("draw x p=0", 5);
        fault("draw  p=0", 5);
    }

    private static void expression(String e, boolean holds) {
        run("one 0 0 0", "law draw 9 " + e + " = 0", "pull 0 0 = " + (holds ? 14 : 5));
    }

    private static void expressions() {
        CHECK.says("E: T or T|E. T: F or F&T. F: !F, (E), or a TEST");
        String yes = "p=0";
        String no = "p=1";
        for (int set = 0; set < 8; set++) {
            boolean a = (set & 1) != 0;
            boolean b = (set & 2) != 0;
            boolean c = (set & 4) != 0;
            String x = a ? yes : no;
            String y = b ? yes : no;
            String z = c ? yes : no;
            expression(x + "|" + y + "&" + z, a || b && c);
            expression(x + "&" + y + "|" + z, a && b || c);
            expression("(" + x + "|" + y + ")&" + z, (a || b) && c);
            expression(x + "&(" + y + "|" + z + ")", a && (b || c));
            expression("!" + x + "&" + y + "|" + z, !a && b || c);
            expression("!(" + x + "&" + y + ")|" + z, !(a && b) || c);
            expression("!" + x + "|" + y + "&!" + z, !a || b && !c);
            expression("!(" + x + "|!(" + y + "&" + z + "))", !(a || !(b && c)));
            expression(x + "&" + y + "&" + z, a && b && c);
            expression(x + "|" + y + "|" + z, a || b || c);
            expression(x + "&" + y + "|" + y + "&" + z + "|" + z + "&" + x, a && b || b && c || c && a);
            expression("((" + x + "|" + y + ")&(" + y + "|" + z + "))", (a || b) && (b || c));
            expression("!!" + x + "&!!!" + y + "|!!!!" + z, a && !b || c);
        }
        String chain = "p=1|".repeat(22);
        expression(chain + yes, true);
        expression(chain + no, false);
        expression(yes + "&p=0".repeat(22), true);
        expression(yes + "&p=0".repeat(21) + "&p=1", false);
        expression("p=1|p=0&(" + "p=1|p=0&".repeat(9) + "p=0)", true);
        for (String e : new String[] {"&p=0", "|p=0", ")", "=0", "0", "0=p", "x=0"}) {
            fault("draw 1 " + e, 7);
        }
        for (String e : new String[] {"p=0&", "p=0|", "p=0&&p=0", "p=0||p=0", "p=0&|p=0", "p=0&)", "p=0|;"}) {
            fault("draw 1 " + e, 11);
        }
        for (String e : new String[] {"p=0)", "p=0(", "p=0!", "p=0p=0", "p=0 "}) {
            fault("draw 1 " + e, 10);
        }
        fault("draw 1 ()", 8);
        fault("draw 1 (", 8);
        fault("draw 1 !", 8);
        fault("draw 1 !)", 8);
        fault("draw 1 !;", 8);
        fault("draw 1 (p=0", 11);
        fault("draw 1 (p=0;", 11);
        fault("draw 1 (p=0)p=0", 12);
        fault("draw 1 (p=0))", 12);
    }

    private static void test(String test, boolean holds, String... scene) {
        Script x = run(scene).then("law draw 9 " + test + "&c=24;bar 0 p=0 = 0");
        CHECK.due(test, x.ask("pull 5 24") - x.ask("told 34"), holds ? 9 : 0);
    }

    private static void letters() {
        CHECK.says("of one of PEOPLE and a CELL p the number of the one, k its KIND, v its v, c the number of the CELL, "
            + "w its WEAR by 10 (cut), h HOUR modulo 10.");
        // The sixth one is number 5, a train with v 9; the cell is 24 with wear 37; the hour is 0.
        String[] scene = {
            "one 0 0 0", "one 0 0 0", "one 0 0 0", "one 0 0 0", "one 0 0 0", "one 1 9 3", "wear 24 37"
        };
        int[] facts = {5, 1, 9, 24, 3, 0};
        for (int letter = 0; letter < 6; letter++) {
            String name = "pkvcwh".substring(letter, letter + 1);
            int fact = facts[letter];
            for (int n : new int[] {0, fact - 1, fact, fact + 1, 9, 10, 24, 25, 99}) {
                if (n >= 0) {
                    test(name + "<" + n, fact < n, scene);
                    test(name + "=" + n, fact == n, scene);
                    test(name + ">" + n, fact > n, scene);
                }
            }
        }
        // c is the cell asked for, not the one's own; w is that cell's.
        run("one 0 0 12", "wear 12 90", "law draw 9 c=12;bar 9 w=9 = 0", "pull 0 13 = 5", "pull 0 12 = 90");
        for (int kind = 0; kind < 7; kind++) {
            run("one " + kind + " 0 12", "law bald 50;draw 9 k=" + kind + " = 0")
                .then("pull 0 3 = " + (kind == 2 || kind == 5 ? -14 : 14));
        }
        for (int v = 0; v < 10; v++) {
            run("one 0 " + v + " 12", "law draw 9 v=" + v + " = 0", "pull 0 3 = 14");
        }
    }

    private static void wearByTen() {
        for (int wear : new int[] {0, 1, 9, 10, 11, 19, 20, 89, 90, 98, 99}) {
            int w = wear / 10;
            run("one 0 0 0", "wear 3 " + wear, "law draw 50 w=" + w + " = 0", "pull 0 3 = " + (wear + 50),
                "law draw 50 w<" + w + "|w>" + w + " = 1", "pull 0 3 = " + wear);
        }
    }

    private static void hourByTen() {
        for (int hour : new int[] {0, 1, 9, 10, 11, 19, 20, 99, 100, 109, 1000, 9990, 9999}) {
            Script x = run("one 0 0 0", "away 0 true").untilHour(hour);
            x.then("wear 3 5", "law draw 50 h=" + hour % 10 + " = 0", "pull 0 3 = 55", "law draw 50 h>9 = 1",
                "pull 0 3 = 5");
        }
    }

    private static void nesting() {
        CHECK.says("A ( or ! within 4 others is none.");
        for (int length = 1; length <= 5; length++) {
            for (int set = 0; set < 1 << length; set++) {
                StringBuilder open = new StringBuilder();
                StringBuilder close = new StringBuilder();
                boolean holds = true;
                for (int i = 0; i < length; i++) {
                    boolean not = (set >> i & 1) == 1;
                    holds ^= not;
                    open.append(not ? '!' : '(');
                    close.append(not ? "" : ")");
                }
                if (length < 5) {
                    expression(open + "p=0" + close, holds);
                    expression("p=1|" + open + "p=0" + close + "&p=0", holds);
                } else {
                    fault("draw 1 " + open + "p=0" + close, 11);
                    fault("draw 1 p=1&" + open + "p=0" + close, 15);
                }
            }
        }
        // Those beside it, and those closed again, are not those it is within.
        expression("(p=0)&(p=0)&(p=0)&(p=0)&(p=0)&(p=0)", true);
        expression("!p=1&!p=1&!p=1&!p=1&!p=1&!p=1", true);
        expression("((((p=0))))&((((p=0))))|!!!!p=1", true);
        expression("!!!!p=0&!p=1", true);
        expression("(((!p=1&!p=1)&!p=1)&!!!p=1)&!!!!p=0", true);
        expression("!(!(p=0)&!(p=0))", true);
        fault("draw 1 !!!(p=0&!p=1)", 15);
        fault("draw 1 (((!p=1&(p=1))&!!p=1)&!!!!p=0)", 32);
        fault("draw 1 ((((p=0)&(!p=1))))", 17);
        fault("draw 1 p=0;bar 1 ((((p=0&(", 25);
    }

    private static void faultAtEnd() {
        CHECK.says("The FAULT: the place of the first byte with which none begins so (the end of THE TEXT, if it ends "
            + "too early).");
        String[] texts = {
            "draw 12 !(p=01|k<3)&v>4;bar 7 c=24|w=9&!h=0;bald 90", "bald 5;bar 1 ((((p=1))))|!!!!p=1;draw 0 h>9"
        };
        for (String text : texts) {
            good(text);
            for (int end = 0; end < text.length(); end++) {
                String begun = text.substring(0, end);
                int place = PlainLaw.fault(begun);
                CHECK.holds("what has begun well ends too early at most: " + begun, place == -1 || place == end);
                run("law " + begun + " = " + (place == -1 ? 0 : -10 - end));
            }
        }
        fault("b", 1);
        fault("x", 0);
        fault("be", 1);
        fault("bat", 2);
        fault("bare", 3);
        fault("bale", 3);
        fault("balds", 4);
        fault("dr", 2);
        fault("do", 1);
        fault("BALD 5", 0);
    }

    /** Each place of a text gets each other sign, is left out, or gets one sign more. */
    private static void faultsOfOneSign() {
        String[] texts = {"draw 12 !(p=1|k<3)&v>4;bald 9", "bar 7 c=24|w=9;draw 0 h>9"};
        for (String text : texts) {
            for (int at = 0; at <= text.length(); at++) {
                String ahead = text.substring(0, at);
                for (int i = 0; i < SIGNS_OF_TEXTS.length(); i++) {
                    char sign = SIGNS_OF_TEXTS.charAt(i);
                    lookAt(ahead + sign + text.substring(at));
                    if (at < text.length()) {
                        lookAt(ahead + sign + text.substring(at + 1));
                    }
                }
                if (at < text.length()) {
                    lookAt(ahead + text.substring(at + 1));
                }
            }
        }
        for (int sign = 0; sign < 128; sign++) {
            lookAt("bald 5" + (char) sign);
            lookAt((char) sign + "ald 5");
            lookAt("draw 1 " + (char) sign + "=1");
            lookAt("draw 1 p" + (char) sign + "1");
            lookAt("draw 1 p=" + (char) sign);
            lookAt("draw 1 p=1" + (char) sign + "p=1");
        }
    }

    private static void lookAt(String text) {
        CarpetsLaw x = new CarpetsLaw();
        int fault = PlainLaw.fault(text);
        CHECK.due(text, Checker.statute(x, text), fault < 0 ? 0 : -10 - fault);
    }

    private static void newestHolds() {
        CHECK.says("The newest STATUTE holds (6 at most); without one there are no CLAUSES.");
        run("one 0 0 12", "told 1 = 95", "pull 0 7 = 5", "of 0 4 = 7", "law bald 0x = -16", "told 1 = 95", "of 0 4 = 7",
            "law bar 9 c=7;bald 50 = 0", "pull 0 7 = -4", "of 0 4 = 13", "told 1 = 50", "law draw 9 c=17 = 1",
            "pull 0 7 = 5", "of 0 4 = 17", "told 1 = 95", "law draw 9 c=11;bald 5; = -29", "of 0 4 = 17", "told 1 = 95");
    }

    /** A text with a FAULT is read up to it: nothing of that may be left in the next. */
    private static void faultLeavesNothing() {
        CHECK.says("-10 less the FAULT (the one that held holds).");
        run("one 0 0 0", "law bald 9;draw 50 p=0x = -28", "told 1 = 95", "pull 0 3 = 5", "law bar 1 c=3 = 0", "told 1 = 95",
            "pull 0 3 = 4", "pull 0 4 = 5");
        run("one 0 0 0", "law bald 9x = -16", "law draw 1 p=0 = 0", "told 1 = 95", "pull 0 3 = 6", "law bald 8;; = -17",
            "told 1 = 95", "pull 0 3 = 6", "law bar 2 p=0 = 1", "told 1 = 95", "pull 0 3 = 3");
    }

    private static void sixAtMost() {
        CHECK.says("FULL: there are 6 (THE TEXT stays); -10 less the FAULT (the one that held holds).");
        Script x = run("one 0 0 12").each(0, 5, "law bald 1# = #").then("count 1 = 6", "told 1 = 15", "count 5 = 0");
        // Full comes ahead of any FAULT, and leaves the text as it was.
        x.then("statute = FULL", "count 5 = 0", "law bald 9 = FULL", "count 5 = 6", "told 1 = 15", "statute = FULL",
            "count 5 = 6", "feed 120 = 7", "statute = FULL", "count 5 = 7", "told 1 = 15", "count 1 = 6");
        // Faults use up no number, and five good ones leave room for one.
        Script y = run().each(0, 4, "law bald 2# = #").then("law bald = -14", "statute = -10", "count 1 = 5",
            "told 1 = 24", "law bald 30 = 5", "law bald 31 = FULL");
        y.then("told 1 = 30");
        // An image brings back which one holds, but not room for more.
        run("image = 0").each(0, 5, "law bald 1# = #").then("undo = 0", "told 1 = 95", "count 1 = 6",
            "law bald 9 = FULL", "told 1 = 95");
    }
}
