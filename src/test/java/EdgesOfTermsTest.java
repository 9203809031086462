/** The edges that the document's first terms name: cells, people, pull, the law, an hour. */
public final class EdgesOfTermsTest {
    private static final Checker CHECK = new Checker();
    private static final int[] TREADS = {2, 3, 1, 6, 3, 2, 6};
    private static final int[] AROUND_12 = {7, 13, 17, 11};

    public static void main(String[] args) {
        cells();
        wear();
        people();
        bald();
        sum();
        pullOfWalkers();
        pullOfKneelers();
        pullOfGuards();
        pullOfChildren();
        pullOfTold();
        tread();
        lawOrder();
        lawAtEdges();
        hourInTurn();
        hourAway();
        spring();
        CHECK.end();
    }

    private static Script run(String... steps) {
        return Script.run(CHECK, steps);
    }

    private static int distance(int a, int b) {
        return Math.abs(a / 5 - b / 5) + Math.abs(a % 5 - b % 5);
    }

    private static void cells() {
        CHECK.says("24 lie in five rows of five: to the right of c is c and 1, below it c and 5, as far as there are.");
        for (int own = 0; own < 25; own++) {
            Script x = run("one 0 0 " + own);
            for (int cell = 0; cell < 25; cell++) {
                CHECK.holds(cell + " is next to " + own + " if it lies so",
                    (x.ask("night 0 " + cell) != -2) == (distance(own, cell) == 1));
                x.then("way 0 " + cell + " 1 = " + distance(own, cell));
            }
            // All but one side is fenced off: the law knows the same sides.
            for (int cell = 0; cell < 25; cell++) {
                x.then("wear " + cell + " 95");
            }
            for (int cell = 0; cell < 25; cell++) {
                x.then("wear " + cell + " 94", "of 0 4 = " + (distance(own, cell) == 1 ? cell : own),
                    "wear " + cell + " 95");
            }
        }
    }

    private static void wear() {
        CHECK.says("WEAR of each: 0 .. 99 (5 at first).");
        run().each(10, 34, "told # = 5").then("told 9 = NONE", "told 35 = NONE");
        Script x = run();
        for (int cell = 0; cell < 25; cell++) {
            x.then("wear " + cell + " 0 = 5", "wear " + cell + " 99 = 0", "wear " + cell + " 100 = BAD",
                "wear " + cell + " -1 = BAD", "wear " + cell + " 1 = 99", "told " + (10 + cell) + " = 1");
        }
        x.then("told 3 = 25");
    }

    private static void people() {
        CHECK.says("PEOPLE 0 .. 5, as they come, are of KINDS: 0 WALKER; 1 TRAIN, 2 SOCKS, 3 KNEELER under WALKER; "
            + "4 GUARD under TRAIN; 5 CHILD under SOCKS; 6 TOLD under KNEELER; with a number v (0 .. 9), a CELL "
            + "(more than one may be in one), AWAY, or not (not at first). HOUR: 0 at first.");
        run("told 0 = 0", "of 0 0 = NONE").each(0, 5, "one # 9 24 = #").then("one 6 0 0 = FULL")
            .each(0, 5, "of # 0 = #").each(0, 5, "of # 1 = 9").each(0, 5, "of # 2 = 24").each(0, 5, "of # 3 = 0")
            .then("of 6 0 = NONE", "of -1 0 = NONE", "told 0 = 0");
        run("one 6 0 0 = 0", "of 0 0 = 6", "of 0 1 = 0", "of 0 2 = 0", "of 0 3 = 0", "of 1 0 = NONE");
    }

    private static void bald() {
        CHECK.says("BALD (95 without; the last one's n): a CELL with that WEAR or more.");
        run("told 1 = 95", "wear 13 94", "told 2 = 0", "wear 13 95", "told 2 = 1", "wear 13 96", "told 2 = 1",
            "wear 13 99", "told 2 = 1");
        run("law draw 1 p=0 = 0", "told 1 = 95", "wear 0 94", "told 2 = 0", "wear 0 95", "told 2 = 1");
        for (int n = 0; n < 100; n++) {
            Script x = run("one 0 0 12", "law bald " + n + " = 0", "told 1 = " + n).each(0, 24, "wear # 0");
            x.then("told 2 = " + (n == 0 ? 25 : 0), "wear 13 " + n, "told 2 = " + (n == 0 ? 25 : 1));
            x.then("of 0 4 = " + (n == 0 ? 12 : 7));
            if (n > 0) {
                x.then("wear 13 " + (n - 1), "told 2 = 0", "of 0 4 = " + (n == 1 ? 7 : 13));
            }
        }
        run("law bald 9;bald 8 = 0", "told 1 = 8");
        run("law bald 8;bald 99 = 0", "told 1 = 99");
        run("law bald 8;draw 5 p=0;bald 0;bar 7 p=0 = 0", "told 1 = 0");
        run("law bald 8;draw 5 p=0 = 0", "told 1 = 8", "law draw 5 p=0 = 1", "told 1 = 95");
    }

    private static void sum() {
        CHECK.says("SUM of one and a CELL: its WEAR, and the n of all draw whose E holds, less those of all bar, "
            + "together (may be below 0).");
        run("one 0 0 12", "wear 3 0", "pull 0 3 = 0", "wear 3 99", "pull 0 3 = 99",
            "law draw 99 p<9;draw 99 p<9;draw 99 p<9;draw 99 p<9;draw 99 p<9;draw 99 p<9;draw 99 p<9;draw 99 p<9 = 0",
            "pull 0 3 = 891", "wear 3 0",
            "law bar 99 p<9;bar 99 p<9;bar 99 p<9;bar 99 p<9;bar 99 p<9;bar 99 p<9;bar 99 p<9;bar 99 p<9;bar 99 p<9 = 1",
            "pull 0 3 = -891", "wear 3 1", "pull 0 3 = -890");
        run("one 0 0 12", "law bar 5 p=0 = 0", "pull 0 3 = 0", "wear 3 4", "pull 0 3 = -1", "wear 3 6", "pull 0 3 = 1");
        run("one 0 0 12", "law draw 9 c=3;bar 9 c<9;draw 8 c=3;bar 0 c=3 = 0", "pull 0 3 = 13", "pull 0 4 = -4",
            "pull 0 9 = 5");
        run("one 0 0 12",
            "law bar 9 p=0;bar 9 p=0;bar 9 p=0;bar 9 p=0;bar 9 p=0;bar 9 p=0;bar 9 p=0;bar 9 p=0;bar 9 p=0;bar 9 p=0 = 0",
            "pull 0 0 = -85");
        run("one 0 0 12",
            "law bar 9 p=1;bar 9 p=1;bar 9 p=1;bar 9 p=1;bar 9 p=1;bar 9 p=1;bar 9 p=1;bar 9 p=1;bar 9 p=1;bar 9 p=0 = 0",
            "pull 0 0 = -4");
    }

    private static void pullOfWalkers() {
        CHECK.says("WALKER, TRAIN: SUM. SOCKS: 0 less SUM.");
        run("one 0 9 12", "one 1 9 12", "one 2 9 12", "wear 13 0", "wear 14 99").each(0, 1, "pull # 13 = 0")
            .each(0, 1, "pull # 14 = 99").then("pull 2 13 = 0", "pull 2 14 = -99", "law bar 9 c=13 = 0",
            "pull 0 13 = -9", "pull 1 13 = -9", "pull 2 13 = 9", "away 0 true", "away 1 true", "away 2 true", "pass 1",
            "pull 0 14 = 99", "pull 1 14 = 99", "pull 2 14 = -99");
    }

    private static void pullOfKneelers() {
        CHECK.says("KNEELER: SUM; the half (cut toward 0) of that, if HOUR is odd.");
        int[] wear = {0, 1, 2, 3, 4, 5, 6, 7, 98, 99};
        for (int kind : new int[] {3, 6}) {
            Script x = run("one " + kind + " 9 12", "law bar 5 c<25 = 0", "away 0 true");
            for (int n : wear) {
                x.then("wear 0 " + n, "pull 0 0 = " + (n - 5));
            }
            x.then("pass 1");
            for (int n : wear) {
                x.then("wear 0 " + n, "pull 0 0 = " + (n - 5) / 2);
            }
            x.then("wear 0 4", "pull 0 0 = 0", "wear 0 2", "pull 0 0 = -1", "pass 1", "pull 0 0 = -3", "pass 7",
                "pull 0 0 = -1", "wear 0 99", "pull 0 0 = 47");
        }
        // Halves make even what was not: the first so named is taken then.
        run("one 3 0 12", "wear 13 11", "wear 7 10", "of 0 4 = 13", "away 0 true", "pass 1", "of 0 4 = 7", "wear 13 12",
            "of 0 4 = 13");
        run("one 3 0 12", "away 0 true").untilHour(9999).then("wear 3 7", "pull 0 3 = 3");
    }

    private static void pullOfGuards() {
        CHECK.says("GUARD: SUM, and v, if the number of the CELL is even.");
        for (int v : new int[] {0, 1, 9}) {
            Script x = run("one 4 " + v + " 12");
            for (int cell = 0; cell < 25; cell++) {
                x.then("pull 0 " + cell + " = " + (cell % 2 == 0 ? 5 + v : 5));
            }
            x.then("wear 24 99", "pull 0 24 = " + (99 + v), "wear 0 0", "pull 0 0 = " + v, "law bar 99 c=0 = 0",
                "pull 0 0 = " + (v - 99));
        }
    }

    private static void pullOfChildren() {
        CHECK.says("CHILD: as SOCKS, and 20, if the CELL is the one to the right of its own.");
        for (int own = 0; own < 25; own++) {
            Script x = run("one 5 9 " + own);
            for (int cell = 0; cell < 25; cell++) {
                boolean right = cell == own + 1 && own % 5 != 4;
                x.then("pull 0 " + cell + " = " + (right ? 15 : -5));
            }
        }
        run("one 5 0 12", "wear 7 6", "wear 17 6", "wear 11 6", "wear 13 25", "of 0 4 = 13", "wear 13 26", "of 0 4 = 7",
            "wear 7 7", "of 0 4 = 13", "wear 13 27", "of 0 4 = 17");
    }

    private static void pullOfTold() {
        CHECK.says("TOLD: as KNEELER, and its ROW (four numbers 0 .. 9; 0 at first) at HOUR modulo 4 more.");
        Script x = run("one 6 5 12", "one 6 5 12", "away 0 true", "away 1 true", "pull 0 3 = 5", "row 0 0 9 = 0",
            "row 0 1 8 = 0", "row 0 2 7 = 0", "row 0 3 6 = 0");
        int[] row = {9, 8, 7, 6};
        for (int hour = 0; hour < 9; hour++) {
            int asKneeler = hour % 2 == 0 ? 5 : 2;
            x.then("pull 0 3 = " + (asKneeler + row[hour % 4]), "pull 1 3 = " + asKneeler, "pass 1");
        }
        x.untilHour(9999).then("wear 3 5", "pull 0 3 = 8");
        run("one 6 0 12", "away 0 true", "row 0 1 9", "pass 1", "law bar 24 c=3 = 0", "pull 0 3 = 0", "wear 3 0",
            "pull 0 3 = -3");
    }

    private static void tread() {
        CHECK.says("TREAD: WALKER, CHILD 2; TRAIN, GUARD 3; SOCKS 1; KNEELER, TOLD 6.");
        for (int kind = 0; kind < 7; kind++) {
            int tread = TREADS[kind];
            Script x = run("one " + kind + " 0 0", "of 0 5 = " + tread, "wear 1 95", "wear 5 95");
            CHECK.says("WEAR of the CELL it is in then is its TREAD more (99 at most).");
            // Fenced in, it stays, and treads its own cell up to 99.
            x.then("wear 0 0", "pass 1", "told 10 = " + tread, "wear 0 " + (98 - tread), "pass 1", "told 10 = 98",
                "wear 0 " + (99 - tread), "pass 1", "told 10 = 99", "wear 0 " + (100 - tread), "pass 1",
                "told 10 = 99", "wear 0 98", "pass 1", "told 10 = 99", "wear 0 99", "pass 1", "told 10 = 99",
                "of 0 2 = 0", "told 0 = 6");
        }
    }

    private static void lawOrder() {
        CHECK.says("THE LAW sends one, from its CELL, to that next to it, above, to the right, below, to the left (so far "
            + "as there are, and not BALD), whose PULL is greatest (of several the first so named); it stays, if there "
            + "is none.");
        for (int set = 0; set < 16; set++) {
            int first = set == 0 ? -1 : AROUND_12[Integer.numberOfTrailingZeros(set)];
            Script more = run("one 0 0 12", "one 2 0 12");
            Script bare = run("one 0 0 12", "one 2 0 12", "law bar 99 c<25 = 0");
            for (int side = 0; side < 4; side++) {
                if ((set >> side & 1) == 1) {
                    more.then("wear " + AROUND_12[side] + " 6");
                } else {
                    bare.then("wear " + AROUND_12[side] + " 95");
                }
            }
            int least = Integer.numberOfTrailingZeros(~set);
            more.then("of 0 4 = " + (set == 0 ? 7 : first), "of 1 4 = " + (least > 3 ? 7 : AROUND_12[least]));
            bare.then("of 0 4 = " + (set == 0 ? 12 : first), "of 1 4 = " + (set == 0 ? 12 : first));
        }
        // A pull of 0 or below 0 is no reason to stay.
        run("one 0 0 12").each(0, 24, "wear # 0").then("of 0 4 = 7", "law bar 1 c=7 = 0", "of 0 4 = 13",
            "law bar 9 c=7;bar 8 c=13;bar 8 c=17;bar 7 c=11 = 1", "of 0 4 = 11", "pass 1 = 1", "of 0 2 = 11");
        // Its own cell is none of those next to it, whatever its wear.
        run("one 0 0 12", "wear 12 94", "of 0 4 = 7", "wear 12 95", "of 0 4 = 7", "pass 1", "of 0 2 = 7");
    }

    private static void lawAtEdges() {
        int[][] edges = {{0, 1, 5}, {4, 9, 3}, {20, 15, 21}, {24, 19, 23}};
        for (int[] corner : edges) {
            run("one 0 0 " + corner[0], "of 0 4 = " + corner[1], "wear " + corner[2] + " 6", "of 0 4 = " + corner[2],
                "wear " + corner[1] + " 6", "of 0 4 = " + corner[1], "wear " + corner[1] + " 95",
                "of 0 4 = " + corner[2], "wear " + corner[2] + " 95", "of 0 4 = " + corner[0], "pass 1 = 1",
                "of 0 2 = " + corner[0]);
        }
        // The cells of another row, though their numbers follow, are not next to it.
        run("one 0 0 9", "wear 10 94", "of 0 4 = 4").then("put 0 10", "wear 9 94", "wear 10 5", "of 0 4 = 5");
    }

    private static void hourInTurn() {
        CHECK.says("An HOUR goes: one behind the other by number, each one not AWAY goes where THE LAW sends it then;");
        // The first one's tread makes bald what the second would have gone to.
        run("one 0 0 12", "one 0 0 14", "wear 13 94", "of 1 4 = 13", "pass 1", "of 0 2 = 13", "of 1 2 = 9",
            "told 23 = 96");
        run("one 2 0 12", "one 0 0 14", "wear 13 93", "wear 7 99", "wear 17 99", "wear 11 99", "pass 1", "of 0 2 = 13",
            "of 1 2 = 13", "told 23 = 96");
        // In an hour HOUR is what it was when it began.
        run("one 0 0 12", "one 0 0 12", "law draw 9 h=0&c=17;draw 9 h=1&c=13 = 0", "pass 1", "of 0 2 = 17", "of 1 2 = 17",
            "put 0 12", "put 1 12", "pass 1", "of 0 2 = 13", "of 1 2 = 13");
        run("pass 1 = 1", "told 3 = 125", "pass 59 = 60");
        // Six come one behind the other.
        Script six = run().times(6, "one 0 0 12").then("pass 1").each(0, 5, "of # 2 = 7");
        six.then("told 17 = 17", "told 3 = 137");
    }

    private static void hourAway() {
        run("one 1 0 12", "away 0 true", "pass 9", "of 0 2 = 12", "told 3 = 125", "away 0 false", "wear 7 94", "pass 1",
            "of 0 2 = 7", "told 17 = 96");
        run("one 0 0 12", "one 0 0 12", "away 0 true", "pass 1", "of 0 2 = 12", "of 1 2 = 7", "told 3 = 127");
    }

    private static void spring() {
        CHECK.says("HOUR is 1 more; if it is a multiple of 10 then, WEAR of each CELL is 1 less (0 at least).");
        run("wear 3 0", "wear 4 1", "wear 24 99", "pass 9 = 9", "told 3 = 210", "pass 1 = 10", "told 13 = 0", "told 14 = 0",
            "told 34 = 98", "told 10 = 4", "told 3 = 186", "pass 9 = 19", "told 3 = 186", "pass 1 = 20", "told 13 = 0",
            "told 14 = 0", "told 34 = 97", "told 3 = 163");
        run("pass 60 = 60", "told 3 = 0", "pass 60 = 120", "told 3 = 0");
        run("wear 0 99", "pass 10", "told 10 = 98", "pass 10", "told 10 = 97", "pass 0 = 20", "told 10 = 97");
        run("wear 0 9").untilHour(9989).then("wear 0 9", "pass 1 = 9990", "told 10 = 8", "pass 9 = 9999", "told 10 = 8");
        // What is trodden in that hour is cut at 99 first.
        run("one 0 0 0", "wear 1 99", "wear 5 99", "wear 0 50", "away 0 true", "pass 9", "away 0 false", "wear 0 98",
            "pass 1", "told 10 = 98", "told 11 = 98");
        run("one 0 0 0", "away 0 true", "pass 9", "away 0 false").each(0, 24, "wear # 0")
            .then("pass 1", "told 11 = 1", "told 10 = 0", "told 3 = 1");
    }
}
