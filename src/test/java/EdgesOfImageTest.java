/** The edges of promises 25 to 31: judging, the image, acts and their trace, taken, count. */
public final class EdgesOfImageTest {
    private static final Checker CHECK = new Checker();

    public static void main(String[] args) {
        judge();
        judgedLength();
        image();
        undo();
        act();
        actsWrap();
        trace();
        taken();
        count();
        CHECK.end();
    }

    private static Script run(String... steps) {
        return Script.run(CHECK, steps);
    }

    private static void judge() {
        CHECK.says("JUDGED from place i of a TAPE on. NONE: tape; CAST: it is no row of bytes.");
        CHECK.says("WEAR told by a row of bytes, from a place on, CELL by CELL, is JUDGED: the first that is otherwise; -5: none; "
            + "100 and how many were looked at, if the row ends ahead of that (or the place is below 0, or the TAPE holds "
            + "nothing).");
        run("judge -1 0 = NONE", "judge 6 0 = NONE", "judge MIN 0 = NONE", "judge MAX 0 = NONE", "judge 6 -1 = NONE",
            "judge 0 0 = 100", "judge 5 0 = 100", "judge 5 -1 = 100", "judge 5 MAX = 100", "judge 5 MIN = 100");
        for (int sort = 1; sort <= 4; sort++) {
            run("tape 5 " + sort + " 25", "judge 5 0 = CAST", "judge 5 25 = CAST", "judge 5 -1 = CAST", "tape 5 " + sort + " 0",
                "judge 5 0 = CAST", "tape 5 -1 0", "judge 5 0 = 100");
        }
        run("tape 5 0 0", "judge 5 0 = 100", "judge 5 1 = 100", "judge 5 -1 = 100", "tape 0 0 1", "judge 0 0 = 0",
            "judge 0 1 = 100", "item 0 0 5", "judge 0 0 = 101", "judge 0 -1 = 100", "judge 0 MIN = 100",
            "judge 0 MAX = 100");
        // A byte is -128 .. 127: a wear of 99 is told by 99 alone.
        run("tape 0 0 25").each(0, 24, "item 0 # 5").then("judge 0 0 = NEVER", "wear 0 99", "judge 0 0 = 0", "item 0 0 99",
            "judge 0 0 = NEVER", "item 0 0 355", "judge 0 0 = NEVER", "item 0 0 -157", "judge 0 0 = NEVER", "item 0 0 -99",
            "judge 0 0 = 0", "wear 0 0", "item 0 0 256", "judge 0 0 = NEVER", "item 0 0 128", "judge 0 0 = 0",
            "item 0 0 LMIN", "judge 0 0 = NEVER");
    }

    private static void judgedLength() {
        // From a place on, up to the end: 25 items are enough, 24 are not.
        for (int length : new int[] {1, 24, 25, 26, 60}) {
            Script x = run("tape 3 0 " + length).each(0, length - 1, "item 3 # 5");
            for (int place : new int[] {0, 1, length - 26, length - 25, length - 24, length - 1, length, length + 1}) {
                int left = Math.max(0, length - place);
                x.then("judge 3 " + place + " = " + (place < 0 ? 100 : left >= 25 ? -5 : 100 + left));
            }
        }
        // The first that is otherwise, even if the row ends behind it, but not beyond its end.
        for (int cell = 0; cell < 25; cell++) {
            Script x = run("tape 0 0 12").each(0, 11, "item 0 # 5").then("wear " + cell + " 6");
            x.then("judge 0 0 = " + (cell < 12 ? cell : 112), "wear 24 7", "judge 0 0 = " + (cell < 12 ? cell : 112));
            Script y = run("tape 0 0 60").each(20, 44, "item 0 # 5").then("wear " + cell + " 6");
            y.then("judge 0 20 = " + cell, "judge 0 19 = 0", "wear 24 7", "judge 0 20 = " + cell);
        }
    }

    private static void image() {
        CHECK.says("THE IMAGE is taken: how many PEOPLE there are.");
        run("image = 0", "image = 0", "one 0 0 0", "image = 1", "undo = 1").times(5, "one 0 0 0").then("image = 6", "undo = 6");
        // The newest image counts, and it stays for more than one undo.
        run("wear 0 1", "image = 0", "wear 0 2", "image = 0", "wear 0 3", "undo = 0", "told 10 = 2", "wear 0 4", "undo = 0",
            "told 10 = 2", "undo = 0", "told 10 = 2");
    }

    private static void undo() {
        CHECK.says("All is as THE IMAGE: how many PEOPLE. STATE: there is none.");
        CHECK.says("THE IMAGE: CELLS, PEOPLE with all that is theirs, HOUR, SEEN, the PLAN, the BOOK, which STATUTE holds.");
        run("undo = STATE", "one 0 0 0", "undo = STATE", "count 0 = 1", "image = 1", "undo = 1");
        // Each part by itself.
        run("image").each(0, 24, "wear # 9").then("undo = 0").each(10, 34, "told # = 5");
        run("one 6 3 12", "row 0 3 8", "image", "put 0 3", "away 0 true", "row 0 3 1", "undo = 1", "of 0 2 = 12", "of 0 3 = 0",
            "row 0 3 0 = 8", "of 0 0 = 6", "of 0 1 = 3");
        run("one 0 3 12", "away 0 true", "image", "away 0 false", "undo = 1", "of 0 3 = 1");
        // The last of six as well as the first.
        run().times(6, "one 6 3 12").each(0, 3, "row 5 # 8").then("away 5 true", "image").each(0, 3, "row 5 # 1 = 8")
            .then("away 5 false", "put 5 24", "undo = 6").each(0, 3, "row 5 # 2 = 8").then("of 5 3 = 1", "of 5 2 = 12",
            "of 4 3 = 0");
        run("pass 7", "image", "pass 60", "undo = 0", "told 0 = 7", "told 3 = 125");
        run("one 0 0 0", "see 0 0 0", "see 0 0 0", "image", "see -1 0 0", "see 0 0 9", "undo", "count 2 = 2", "from 0 = 1");
        run("one 0 0 0", "image", "see 0 0 9", "plan 1 0", "book 0 9", "undo", "count 2 = 0", "count 3 = 0", "count 4 = 0",
            "from 0 = 33554431", "ends 0 = 125", "looked = NEVER");
        run("plan 1 0", "plan 1 1", "image", "plan -1 0", "plan 0 0", "undo", "count 3 = 2", "ends 0 = 145");
        run("one 0 0 0", "book 0 0", "book 0 1", "image", "book -1 0", "book 0 3", "undo", "count 4 = 2", "looked = 1");
        run("law bald 3 = 0", "image", "law bald 4 = 1", "undo", "told 1 = 3", "count 1 = 2", "law bald 5 = 2");
        run("image", "law bald 4 = 0", "undo", "told 1 = 95", "count 1 = 1");
        // What is not of it stays: the text, the tapes, the trace, how many statutes there are.
        run("one 0 0 0", "image", "law bald 4 = 0", "feed 98 = 1", "tape 0 0 2", "item 0 1 7", "act 0 1 5 = 5", "undo = 1",
            "count 1 = 1", "count 5 = 1", "read 0 1 = 7", "count 6 = 2", "trace 0 = 11", "trace 1 = 10", "feed 97 = 2");
        run("one 0 0 0", "act 0 1 5", "feed 98", "tape 0 0 2", "image", "act 0 0 1", "statute = -11", "tape 0 -1 0", "undo = 1",
            "trace 0 = 10", "count 6 = 1", "count 5 = 0", "read 0 0 = NO");
    }

    private static void act() {
        CHECK.says("An ACT (0 bows, 1 walks, 2 tells) of one with x. 0, and no TRACE then: no such one, act.");
        String[] wrong = {
            "-1 0 5", "1 0 5", "MIN 0 5", "MAX 0 5", "0 -1 5", "0 3 5", "0 MIN 5", "0 MAX 5", "1 3 5", "-1 -1 5"
        };
        for (String with : wrong) {
            run("one 0 0 0", "act 0 2 5 = 10", "count 6 = 3", "act " + with + " = 0", "count 6 = 0", "trace 0 = NONE",
                "trace 1 = NONE", "act 0 0 5 = 5", "count 6 = 1", "trace 0 = 10", "trace 1 = NONE");
        }
        run("act 0 0 5 = 0", "count 6 = 0", "trace 0 = NONE");
        // 0 is an answer, too: then there is a trace.
        run("one 0 0 0", "act 0 0 0 = 0", "count 6 = 1", "trace 0 = 10");
        run().times(6, "one 0 0 0").then("act 5 0 1 = 6", "act 6 0 1 = 0", "count 6 = 0");
        // One who is away acts as well, and acting changes nothing else.
        run("one 4 9 0", "away 0 true", "act 0 1 1 = -13", "told 3 = 125", "of 0 2 = 0", "told 0 = 0", "of 0 3 = 1");
    }

    private static void actsWrap() {
        CHECK.says("ACTS of one with x (wrapping): 0 bows, 1 walks, 2 tells; i its number.");
        // Each kind as number 5 with v 9, with x at both ends of int.
        int[] ends = {Integer.MIN_VALUE, Integer.MIN_VALUE + 1, -1, 0, 1, Integer.MAX_VALUE - 1, Integer.MAX_VALUE};
        for (int kind = 0; kind < 7; kind++) {
            for (int x : ends) {
                int[] due = answers(kind, x, 5, 9);
                Script s = run().times(5, "one 0 0 0").then("one " + kind + " 9 0");
                for (int act = 0; act < 3; act++) {
                    s.then("act 5 " + act + " " + x + " = " + due[act]);
                }
            }
        }
    }

    /** What the three acts of a kind come to, written out by hand from the bodies. */
    private static int[] answers(int kind, int x, int i, int v) {
        return switch (kind) {
            case 0 -> new int[] {x + i, x + i - v, (x + i - v) * 2};
            case 1 -> new int[] {x + i, x + i - v ^ 6, (x + i - v ^ 6) * 2};
            case 2 -> new int[] {x * 3 + i, x * 3 + i - v, (x * 3 + i - v) * 2};
            case 3 -> new int[] {x + i, x + i - v, (x + i - v) * 2 + 1 + i - v};
            case 4 -> new int[] {-(x + i), -(x + 1 + i) - v ^ 6, (-(x + 1 + i) - v ^ 6) * 2};
            case 5 -> new int[] {x * 3 + i, x * 3 + i - v, ((x - i) * 3 + i - v) * 2};
            default -> {
                int walks = (x + i ^ v) - v + 2 + i;
                yield new int[] {x + i ^ v, walks, walks * 2 + (1 + i ^ v) - v + 2 + i};
            }
        };
    }

    private static void trace() {
        CHECK.says("THE TRACE's i-th body. NONE.");
        CHECK.says("THE TRACE: the numbers of the bodies that ran in the latest act(), as they began; the first 20 are kept.");
        // The longest there is: a told one tells.
        int[] bodies = {40, 12, 70, 11, 71, 10, 10, 70, 11, 71, 10, 10};
        Script x = run("trace 0 = NONE", "one 6 0 0", "trace 0 = NONE", "act 0 2 3", "count 6 = " + bodies.length);
        for (int i = 0; i < bodies.length; i++) {
            x.then("trace " + i + " = " + bodies[i]);
        }
        x.each(bodies.length, 25, "trace # = NONE").then("trace -1 = NONE", "trace MIN = NONE", "trace MAX = NONE");
        // A shorter one behind it leaves nothing of it.
        x.then("act 0 0 3", "count 6 = 2", "trace 0 = 71", "trace 1 = 10").each(2, 12, "trace # = NONE");
    }

    private static void taken() {
        CHECK.says("One taken for one of KIND k (0 .. 6), or one under that: its KIND. BAD: k; NOTHING: no such one; CAST.");
        run("taken 0 0 = NOTHING", "taken 0 -1 = BAD", "taken 0 7 = BAD", "taken -1 7 = BAD", "taken 0 6 = NOTHING",
            "one 0 0 0", "taken 0 0 = 0", "taken 0 -1 = BAD", "taken 0 7 = BAD", "taken 0 MIN = BAD", "taken 0 MAX = BAD",
            "taken 1 0 = NOTHING", "taken -1 0 = NOTHING", "taken MIN 6 = NOTHING", "taken MAX 6 = NOTHING",
            "taken 1 7 = BAD", "taken 0 1 = CAST", "taken 0 6 = CAST");
        int[][] are = {{0}, {0, 1}, {0, 2}, {0, 3}, {0, 1, 4}, {0, 2, 5}, {0, 3, 6}};
        for (int kind = 0; kind < 7; kind++) {
            Script x = run("one " + kind + " 0 0");
            for (int k = 0; k < 7; k++) {
                boolean is = false;
                for (int above : are[kind]) {
                    is |= above == k;
                }
                x.then("taken 0 " + k + " = " + (is ? kind : -12));
            }
        }
        run().times(6, "one 4 0 0").then("taken 5 1 = 4", "taken 6 1 = NOTHING");
    }

    private static void count() {
        CHECK.says("How many: 0 PEOPLE, 1 STATUTES, 2 SEEN, 3 of the PLAN, 4 of the BOOK, 5 bytes of THE TEXT, 6 bodies that ran "
            + "in the latest act(). BAD.");
        run("count -1 = BAD", "count 7 = BAD", "count MIN = BAD", "count MAX = BAD").each(0, 6, "count # = 0");
        Script full = run().times(6, "one 6 0 0").times(6, "law bald 9").times(5, "see 0 0 0").times(10, "plan 0 0");
        full.times(8, "book 0 0").times(100, "feed 98").then("act 0 2 0", "one 0 0 0 = FULL", "see 0 0 0 = FULL",
            "plan 0 0 = FULL", "book 0 0 = FULL", "feed 98 = FULL", "statute = FULL", "count 0 = 6", "count 1 = 6",
            "count 2 = 5", "count 3 = 10", "count 4 = 8", "count 5 = 100", "count 6 = 12", "count 7 = BAD");
    }
}
