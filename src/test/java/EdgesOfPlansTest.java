/** The edges of promises 21 to 24: the plan and its ends, the book and what is looked at. */
public final class EdgesOfPlansTest {
    private static final Checker CHECK = new Checker();

    public static void main(String[] args) {
        plan();
        ends();
        book();
        looked();
        CHECK.end();
    }

    private static Script run(String... steps) {
        return Script.run(CHECK, steps);
    }

    private static void plan() {
        CHECK.says("A row comes to the PLAN: how many there are (what -1: it is empty then, 0). NONE: what (0 .. 3), CELL (by 1), "
            + "person (by 2, 3; by 0 n does not matter); FULL: 10.");
        String[] none = {
            "-2 0", "4 0", "MIN 0", "MAX 0", "1 -1", "1 25", "1 MIN", "1 MAX", "2 1", "2 -1", "2 MIN", "2 MAX", "3 1", "3 -1",
            "3 MIN", "3 MAX"
        };
        String[] good = {
            "0 0", "0 -1", "0 MIN", "0 MAX", "1 0", "1 24", "2 0", "3 0", "0 25", "1 12"
        };
        Script x = run("one 0 0 12");
        for (int rows = 0; rows <= 10; rows++) {
            for (String with : none) {
                x.then("plan " + with + " = NONE");
            }
            x.then("count 3 = " + rows);
            if (rows < 10) {
                x.then("plan " + good[rows] + " = " + (rows + 1));
            }
        }
        for (String with : good) {
            x.then("plan " + with + " = FULL");
        }
        x.then("count 3 = 10", "plan -1 99 = 0", "count 3 = 0", "plan -1 0 = 0", "plan 0 0 = 1", "count 3 = 1");
        run("plan 2 0 = NONE", "plan 3 0 = NONE", "plan 1 24 = 1", "plan 0 0 = 2", "count 3 = 2");
        run().times(6, "one 0 0 12").then("plan 2 5 = 1", "plan 3 5 = 2", "plan 2 6 = NONE", "plan 3 6 = NONE");
    }

    private static void ends() {
        CHECK.says("A PLAN told by hand: what goes (0 an HOUR, 1 WEAR of CELL n is 10 more (99 at most), 2 one is AWAY, 3 one is "
            + "not; 10 rows at most): ENDS: WEAR of all, together; how many are BALD.");
        CHECK.says("ENDS: what 0 WEAR, 1 how many are BALD. NONE.");
        run("ends -1 = NONE", "ends 2 = NONE", "ends MIN = NONE", "ends MAX = NONE", "ends 0 = 125", "ends 1 = 0");
        run("plan 1 24", "wear 24 0", "ends 0 = 130", "wear 24 88", "ends 0 = 218", "wear 24 89", "ends 0 = 219", "ends 1 = 1",
            "wear 24 90", "ends 0 = 219", "wear 24 99", "ends 0 = 219", "wear 24 84", "ends 1 = 0", "wear 24 85", "ends 1 = 1",
            "told 34 = 85");
        // All ten rows go, each from how the one ahead of it has left it.
        run().times(10, "plan 1 0").then("ends 0 = 219", "ends 1 = 1", "told 10 = 5", "plan -1 0", "ends 0 = 125");
        run().times(9, "plan 1 0").then("ends 0 = 215", "ends 1 = 1");
        run().times(8, "plan 1 0").then("ends 0 = 205", "ends 1 = 0", "plan 1 1", "plan 1 24 = 10", "ends 0 = 225");
        run().times(10, "plan 0 0").then("ends 0 = 100", "told 0 = 0", "told 3 = 125", "pass 1", "ends 0 = 100", "pass 8",
            "ends 0 = 100", "pass 1", "ends 0 = 75");
        run().times(9, "plan 0 0").then("ends 0 = 125", "pass 1", "ends 0 = 100");
        // Who is away already, or is not, may be told so once more.
        run("one 0 0 12", "plan 3 0", "plan 0 0", "ends 0 = 127", "plan -1 0", "plan 2 0", "plan 2 0", "plan 0 0",
            "ends 0 = 125", "plan 3 0", "plan 0 0", "ends 0 = 127", "of 0 3 = 0", "away 0 true", "ends 0 = 127", "plan -1 0",
            "plan 0 0", "ends 0 = 125", "of 0 3 = 1", "of 0 2 = 12");
        run("law bald 0 = 0", "ends 1 = 25").each(0, 24, "wear # 0").then("ends 0 = 0", "ends 1 = 25");
        run().each(0, 24, "wear # 99").then("ends 0 = 2475", "ends 1 = 25");
    }

    private static void book() {
        CHECK.says("A row comes to the BOOK: how many there are (person -1: it is empty then, 0). NONE: person, cell; FULL: 8.");
        String[] none = {"1 0", "-2 0", "MIN 0", "MAX 0", "0 -1", "0 25", "0 MIN", "0 MAX", "1 25", "-2 -1"};
        Script x = run("book 0 0 = NONE", "book -1 0 = 0", "one 0 0 12");
        for (int rows = 0; rows <= 8; rows++) {
            for (String with : none) {
                x.then("book " + with + " = NONE");
            }
            x.then("count 4 = " + rows, rows < 8 ? "book 0 " + rows * 3 + " = " + (rows + 1) : "book 0 24 = FULL");
        }
        x.then("book 0 0 = FULL", "count 4 = 8", "book -1 99 = 0", "count 4 = 0", "book -1 -1 = 0", "book 0 24 = 1",
            "count 4 = 1");
        run().times(6, "one 0 0 12").then("book 5 0 = 1", "book 6 0 = NONE");
    }

    private static void looked() {
        CHECK.says("A BOOK told by hand: PEOPLE, CELLS (8 at most): LOOKED at: the number of the first of these rows by which it "
            + "is otherwise now (-5: none).");
        run("looked = NEVER", "one 0 0 0", "looked = NEVER", "book 0 0", "looked = NEVER", "put 0 24", "looked = 0",
            "book 0 24", "looked = 0", "book -1 0", "looked = NEVER", "book 0 24", "looked = NEVER");
        Script x = run("one 0 0 12").times(7, "book 0 12").then("looked = NEVER", "book 0 13 = 8", "looked = 7",
            "book 0 14 = FULL", "looked = 7", "put 0 13", "looked = 0");
        x.then("put 0 12", "looked = 7", "pass 1", "looked = 0");
        for (int row = 0; row < 8; row++) {
            Script y = run("one 0 0 12", "one 0 0 3");
            for (int i = 0; i < 8; i++) {
                y.then(i < row ? "book 0 12" : i == row ? "book 1 4" : "book 0 24");
            }
            y.then("looked = " + row, "count 4 = 8");
        }
    }
}
