/** The edges of promises 32 to 35: tapes, their sorts and lengths, items that are cut, shifts that overlap. */
public final class EdgesOfTapesTest {
    private static final Checker CHECK = new Checker();
    private static final int[] BITS = {8, 16, 32, 64};

    public static void main(String[] args) {
        tape();
        tapeAnew();
        item();
        itemCut();
        read();
        shiftRefused();
        shiftEdges();
        shiftOverlap();
        CHECK.end();
    }

    private static Script run(String... steps) {
        return Script.run(CHECK, steps);
    }

    private static void tape() {
        CHECK.says("A TAPE becomes a row of n (0 .. 60) of a sort, all 0, or holds nothing (sort -1: n does not matter): 1. NONE: "
            + "tape; BAD: sort, n above 60; SIZE.");
        run("tape -1 0 0 = NONE", "tape 6 0 0 = NONE", "tape MIN 0 0 = NONE", "tape MAX 0 0 = NONE", "tape 6 5 61 = NONE",
            "tape 6 -1 0 = NONE", "tape -1 0 -1 = NONE", "tape 6 0 -1 = NONE");
        for (int tape = 0; tape < 6; tape++) {
            run("tape " + tape + " -2 0 = BAD", "tape " + tape + " 5 0 = BAD", "tape " + tape + " MIN 0 = BAD",
                "tape " + tape + " MAX 0 = BAD", "tape " + tape + " 5 -1 = BAD", "tape " + tape + " -2 -1 = BAD",
                "tape " + tape + " 5 61 = BAD", "item " + tape + " 0 0 = NOTHING").each(-1, 4, "tape " + tape + " # 60 = 1")
                .each(0, 4, "tape " + tape + " # 61 = BAD").each(0, 4, "tape " + tape + " # MAX = BAD")
                .each(0, 4, "tape " + tape + " # -1 = SIZE").each(0, 4, "tape " + tape + " # MIN = SIZE")
                .each(0, 4, "tape " + tape + " # 0 = 1")
                .then("tape " + tape + " -1 61 = 1", "tape " + tape + " -1 -1 = 1", "tape " + tape + " -1 MIN = 1",
                "tape " + tape + " -1 MAX = 1", "item " + tape + " 0 0 = NOTHING", "read " + tape + " 0 = NO");
        }
    }

    private static void tapeAnew() {
        for (int sort = 0; sort <= 4; sort++) {
            String made = "tape 2 " + sort + " ";
            run(made + "60 = 1").each(0, 59, "read 2 # = 0").then("read 2 60 = NO").each(0, 59, "item 2 # 1 = 1")
                .then("item 2 60 1 = PLACE", made + "60 = 1").each(0, 59, "read 2 # = 0");
            run(made + "1 = 1", "read 2 0 = 0", "read 2 1 = NO", "item 2 0 1 = 1", made + "0 = 1", "read 2 0 = NO",
                "item 2 0 1 = PLACE", made + "2 = 1", "read 2 0 = 0", "read 2 1 = 0", "read 2 2 = NO");
            // A tape that held nothing in between is all 0 again; its neighbours stay as they were.
            run(made + "60 = 1", "tape 1 0 60", "tape 3 0 60", "item 1 59 7", "item 3 0 8", "item 2 0 1", "item 2 59 1",
                "tape 2 -1 0 = 1", made + "60 = 1", "read 2 0 = 0", "read 2 59 = 0", "read 1 59 = 7", "read 3 0 = 8");
        }
        // What is refused leaves the tape as it was.
        run("tape 0 3 4", "item 0 3 LMAX", "tape 0 3 61 = BAD", "tape 0 5 4 = BAD", "tape 0 -2 4 = BAD", "tape 0 3 -1 = SIZE",
            "read 0 3 = LMAX", "read 0 4 = NO");
    }

    private static void item() {
        CHECK.says("NONE; NOTHING; PLACE.");
        run("item -1 0 0 = NONE", "item 6 0 0 = NONE", "item MIN 0 0 = NONE", "item MAX 0 0 = NONE", "item 6 -1 0 = NONE",
            "item 0 0 0 = NOTHING", "item 5 0 0 = NOTHING", "item 5 -1 0 = NOTHING", "item 5 60 0 = NOTHING",
            "tape 5 2 3", "item 5 -1 9 = PLACE", "item 5 3 9 = PLACE", "item 5 MIN 9 = PLACE", "item 5 MAX 9 = PLACE",
            "item 5 0 9 = 1", "item 5 2 8 = 1", "read 5 0 = 9", "read 5 1 = 0", "read 5 2 = 8", "tape 4 2 0",
            "item 4 0 0 = PLACE", "item 4 -1 0 = PLACE", "tape 5 -1 0", "item 5 0 0 = NOTHING");
    }

    private static void itemCut() {
        CHECK.says("Item i of a TAPE becomes v (its lowest bits, as many as an item has; booleans: whether v is not 0): 1.");
        for (int sort = 0; sort < 4; sort++) {
            long least = -1L << BITS[sort] - 1;
            long most = -(least + 1);
            Script x = run("tape 0 " + sort + " 1");
            kept(x, most, most);
            kept(x, least, least);
            kept(x, -1, -1);
            kept(x, 0, 0);
            kept(x, 1, 1);
            // One beyond either end wraps around to the other, and so do all bits above.
            kept(x, most + 1, least);
            kept(x, least - 1, most);
            if (sort < 3) {
                kept(x, 1L << BITS[sort], 0);
                kept(x, (1L << BITS[sort]) + 7, 7);
                kept(x, (1L << BITS[sort]) - 1, -1);
                kept(x, Long.MAX_VALUE, -1);
                kept(x, Long.MIN_VALUE, 0);
                kept(x, Long.MIN_VALUE + 5, 5);
            }
        }
        Script x = run("tape 0 4 1");
        for (long v : new long[] {1, 2, -1, 256, 65536, 1L << 32, Long.MIN_VALUE, Long.MAX_VALUE}) {
            kept(x, v, 1);
            kept(x, 0, 0);
        }
    }

    private static void kept(Script x, long v, long as) {
        x.then("item 0 0 " + v + " = 1", "read 0 0 = " + as);
    }

    private static void read() {
        CHECK.says("Item i of a TAPE. NO: no such TAPE, nothing there, no such place.");
        run("read -1 0 = NO", "read 6 0 = NO", "read MIN 0 = NO", "read MAX 0 = NO", "read 0 0 = NO", "read 0 -1 = NO",
            "tape 0 3 60", "read 0 0 = 0", "read 0 59 = 0", "read 0 -1 = NO", "read 0 60 = NO", "read 0 MIN = NO",
            "read 0 MAX = NO", "item 0 59 LMIN", "read 0 59 = LMIN", "tape 0 3 0", "read 0 0 = NO", "tape 0 -1 0",
            "read 0 0 = NO");
    }

    private static void shiftRefused() {
        CHECK.says("NONE: tapes; NOTHING; CAST: of unlike sorts; PLACE: n, i or j is below 0, or beyond either's end.");
        Script x = run("tape 0 0 4", "tape 1 0 2", "tape 2 1 4", "tape 3 0 0");
        // Each refusal goes ahead of those that are named behind it.
        x.then("shift -1 0 0 0 0 = NONE", "shift 6 0 0 0 0 = NONE", "shift 0 0 -1 0 0 = NONE", "shift 0 0 6 0 0 = NONE",
            "shift MIN 0 0 0 0 = NONE", "shift 0 0 MAX 0 0 = NONE", "shift 6 -1 4 -1 -1 = NONE", "shift 4 -1 6 -1 -1 = NONE",
            "shift 4 0 0 0 0 = NOTHING", "shift 0 0 4 0 0 = NOTHING", "shift 4 0 4 0 0 = NOTHING", "shift 4 -1 5 -1 -1 = NOTHING",
            "shift 2 -1 4 0 0 = NOTHING", "shift 0 0 2 0 0 = CAST", "shift 2 0 0 0 1 = CAST", "shift 0 -1 2 -1 -1 = CAST",
            "shift 0 9 2 9 9 = CAST");
        for (int sort = 0; sort < 5; sort++) {
            for (int other = 0; other < 5; other++) {
                run("tape 0 " + sort + " 2", "tape 5 " + other + " 2", "shift 0 0 5 0 2 = " + (sort == other ? 2 : -12));
            }
        }
        x.then("shift 0 0 1 0 -1 = PLACE", "shift 0 -1 1 0 0 = PLACE", "shift 0 0 1 -1 0 = PLACE", "shift 0 0 1 0 3 = PLACE",
            "shift 1 0 0 0 3 = PLACE", "shift 0 3 1 0 2 = PLACE", "shift 0 0 1 1 2 = PLACE", "shift 0 4 1 0 1 = PLACE",
            "shift 0 0 1 2 1 = PLACE", "shift 0 5 1 0 0 = PLACE", "shift 0 0 1 3 0 = PLACE", "shift 0 MAX 1 0 1 = PLACE",
            "shift 0 0 1 MAX 1 = PLACE", "shift 0 0 1 0 MAX = PLACE", "shift 0 1 1 1 MAX = PLACE",
            "shift 0 MIN 1 0 0 = PLACE", "shift 0 0 1 MIN 0 = PLACE", "shift 0 0 1 0 MIN = PLACE",
            "shift 0 MAX 1 MAX MAX = PLACE", "shift 0 MIN 1 MIN MIN = PLACE", "shift 3 0 0 0 1 = PLACE",
            "shift 0 0 3 0 1 = PLACE", "shift 0 MAX 0 MAX 2 = PLACE", "shift 0 -1 0 0 4 = PLACE");
    }

    private static void shiftEdges() {
        CHECK.says("n items of a TAPE from i on come to another one (or the same) from j on, as they all were before: n.");
        Script x = run("tape 0 0 4", "tape 1 0 2", "tape 3 0 0", "item 0 2 7", "item 0 3 8");
        x.then("shift 0 4 1 2 0 = 0", "shift 0 0 3 0 0 = 0", "shift 3 0 3 0 0 = 0", "shift 3 0 0 4 0 = 0",
            "shift 0 2 1 0 2 = 2", "read 1 0 = 7", "read 1 1 = 8", "read 0 2 = 7", "shift 0 3 1 0 1 = 1", "read 1 0 = 8",
            "read 1 1 = 8", "shift 1 0 0 0 2 = 2", "read 0 0 = 8", "read 0 1 = 8", "read 0 2 = 7", "shift 0 0 0 0 4 = 4",
            "shift 0 0 0 0 5 = PLACE");
        // From one full row to another, whole, and next to it nothing changes.
        Script full = run("tape 4 3 60", "tape 5 3 60", "tape 3 3 60").each(0, 59, "item 4 # 1#");
        full.then("shift 4 0 5 0 60 = 60", "shift 4 0 5 0 61 = PLACE", "shift 4 1 5 0 60 = PLACE", "shift 4 0 5 1 60 = PLACE")
            .each(0, 59, "read 5 # = 1#").each(0, 59, "read 4 # = 1#").each(0, 59, "read 3 # = 0");
    }

    /** All ways to shift within a row of five, against a row that was copied first. */
    private static void shiftOverlap() {
        for (int sort = 0; sort < 4; sort++) {
            for (int from = 0; from <= 5; from++) {
                for (int to = 0; to <= 5; to++) {
                    for (int n = 0; n <= 6; n++) {
                        Script x = run("tape 0 " + sort + " 5").each(0, 4, "item 0 # 1#");
                        boolean fits = from + n <= 5 && to + n <= 5;
                        x.then("shift 0 " + from + " 0 " + to + " " + n + " = " + (fits ? n : -13));
                        for (int i = 0; i < 5; i++) {
                            boolean moved = fits && i >= to && i < to + n;
                            x.then("read 0 " + i + " = " + (10 + (moved ? i - to + from : i)));
                        }
                    }
                }
            }
        }
    }
}
