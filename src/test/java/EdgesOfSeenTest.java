/** The edges of promises 16 to 20: what is seen, from where, by which v, odds and means. */
public final class EdgesOfSeenTest {
    private static final Checker CHECK = new Checker();
    private static final int ALL_CELLS = (1 << 25) - 1;

    public static void main(String[] args) {
        see();
        seenFromNow();
        from();
        can();
        oddsRefused();
        odds();
        meanRefused();
        mean();
        CHECK.end();
    }

    private static Script run(String... steps) {
        return Script.run(CHECK, steps);
    }

    private static void see() {
        CHECK.says("What is SEEN comes: how many there are (person -1: none then, 0). NONE: person, cell; BAD: n; FULL: 5.");
        String[] none = {
            "1 0 0", "-2 0 0", "MIN 0 0", "MAX 0 0", "0 0 -1", "0 0 25", "0 0 MIN", "0 0 MAX", "1 9 0", "0 9 25", "1 -1 25"
        };
        String[] bad = {"0 -1 0", "0 9 0", "0 MIN 24", "0 MAX 24"};
        Script x = run("see 0 0 0 = NONE", "see -1 0 0 = 0", "one 0 0 12");
        for (int rows = 0; rows <= 5; rows++) {
            for (String with : none) {
                x.then("see " + with + " = NONE");
            }
            for (String with : bad) {
                x.then("see " + with + " = BAD");
            }
            x.then("count 2 = " + rows, rows < 5 ? "see 0 8 24 = " + (rows + 1) : "see 0 0 0 = FULL");
        }
        x.then("count 2 = 5", "see -1 -7 99 = 0", "count 2 = 0", "see -1 0 0 = 0", "see 0 0 0 = 1", "count 2 = 1");
        run("one 0 0 12", "see 0 0 0 = 1", "see 0 8 0 = 2", "see 0 0 24 = 3", "see 0 8 24 = 4", "see 0 0 0 = 5");
        run().times(6, "one 0 0 12").then("see 5 0 12 = 1", "see 6 0 12 = NONE");
    }

    private static void seenFromNow() {
        CHECK.says("SEEN told by hand: one of PEOPLE, HOURS n (0 .. 8) from now, the CELL it is in then (5 rows at most).");
        // All five rows count, and the eighth hour is looked at.
        run("one 0 0 12", "see 0 0 12", "see 0 1 7", "see 0 2 2", "see 0 3 7", "from 0 = 4096", "see 0 8 2 = 5",
            "from 0 = 4096", "see 0 4 7 = FULL", "from 0 = 4096", "see -1 0 0 = 0", "see 0 8 7", "from 0").then(
            "see -1 0 0", "see 0 0 12", "see 0 8 2", "from 0 = 4096", "see 0 7 2 = 3", "from 0 = 0");
        // Rows of one hour that speak against each other, and rows that say the same.
        run("one 0 0 12", "see 0 0 3", "see 0 0 3", "from 0 = 8", "see 0 0 4", "from 0 = 0", "can 0 0 = 0", "can 0 1 = NEVER");
        // Now is when it is asked.
        run("one 0 0 12", "see 0 1 7", "can 0 0 = 10", "pass 1", "of 0 2 = 7", "can 0 0 = 0", "see -1 0 0", "see 0 0 7",
            "can 0 0 = 10", "pass 1", "can 0 0 = 0");
    }

    private static void from() {
        CHECK.says("FROM of one: those CELLS, as bits (0 .. 24), by which, were it there now, all of SEEN is so.");
        CHECK.says("FROM (bits). NONE.");
        run("from 0 = NONE", "one 0 0 12", "from 0 = " + ALL_CELLS, "from 1 = NONE", "from -1 = NONE", "from MIN = NONE",
            "from MAX = NONE", "see 0 0 0", "from 0 = 1", "see -1 0 0", "see 0 0 24", "from 0 = " + (1 << 24), "see 0 0 0",
            "from 0 = 0", "of 0 2 = 12");
        // What is seen of another one holds by where this one is, or it never does.
        run("one 0 0 12", "one 0 0 3", "see 1 0 3", "from 0 = " + ALL_CELLS, "from 1 = 8", "see 1 0 4", "from 0 = 0",
            "from 1 = 0");
        run("one 0 0 12", "away 0 true", "see 0 8 24", "see 0 0 24", "from 0 = " + (1 << 24));
        // It may be told to stand where it is bald, and where others are.
        run("one 0 0 12", "one 0 0 24", "wear 24 99", "see 0 0 24", "from 0 = " + (1 << 24), "see 0 1 19",
            "from 0 = " + (1 << 24));
        run().times(6, "one 0 0 12").then("from 5 = " + ALL_CELLS, "from 6 = NONE");
    }

    private static void can() {
        CHECK.says("CAN of one: how many numbers v (0 .. 9) there are by which, were that its v, likewise; the least (-5: none).");
        CHECK.says("CAN: what 0 how many, 1 the least; -5. NONE.");
        run("can 0 0 = NONE", "one 0 3 12", "can 0 0 = 10", "can 0 1 = 0", "can 1 0 = NONE", "can -1 0 = NONE",
            "can MIN 1 = NONE", "can MAX 1 = NONE", "can 0 -1 = NONE", "can 0 2 = NONE", "can 0 MIN = NONE",
            "can 0 MAX = NONE", "can 1 2 = NONE");
        for (int v = 0; v < 10; v++) {
            run("one 0 3 12", "law draw 9 c=13&v=" + v + " = 0", "see 0 1 13", "can 0 0 = 1", "can 0 1 = " + v,
                "see -1 0 0", "see 0 1 7", "can 0 0 = 9", "can 0 1 = " + (v == 0 ? 1 : 0), "of 0 1 = 3");
        }
        run("one 0 3 12", "see 0 1 13", "can 0 0 = 0", "can 0 1 = NEVER");
        // By the v of one another one's way may turn: it wears the way ahead of that one.
        run("one 0 3 12", "one 0 3 14", "law draw 9 c=13&v>7&p=0 = 0", "see 1 1 13", "can 0 0 = 2", "can 0 1 = 8",
            "can 1 0 = 0", "can 1 1 = NEVER", "see -1 0 0", "see 1 1 9", "can 0 0 = 8", "can 0 1 = 0", "can 1 0 = 10",
            "of 0 1 = 3", "of 1 1 = 3");
        run().times(6, "one 0 0 12").then("can 5 0 = 10", "can 6 0 = NONE");
    }

    private static void oddsRefused() {
        CHECK.says("ODDS; part 0 above, 1 below the line. NO: person, cell, part.");
        run("odds 0 0 0 = NO", "one 0 0 12", "odds 0 7 0 = 22", "odds 0 7 1 = 25", "odds 1 7 0 = NO", "odds -1 7 0 = NO",
            "odds MIN 7 0 = NO", "odds MAX 7 0 = NO", "odds 0 -1 0 = NO", "odds 0 25 0 = NO", "odds 0 MIN 0 = NO",
            "odds 0 MAX 0 = NO", "odds 0 7 -1 = NO", "odds 0 7 2 = NO", "odds 0 7 MIN = NO", "odds 0 7 MAX = NO",
            "odds 0 0 0 = 0", "odds 0 0 1 = 1", "odds 0 24 0 = 0", "odds 0 24 1 = 1");
        run().times(6, "one 0 0 12").then("odds 5 7 0 = 22", "odds 6 7 0 = NO");
    }

    private static void fraction(Script x, int cell, int above, int below) {
        x.then("odds 0 " + cell + " 0 = " + above, "odds 0 " + cell + " 1 = " + below);
    }

    private static void odds() {
        CHECK.says("ODDS of one and a CELL: if a cat treads one CELL, each alike likely, WEAR of that being 10 more now (99 at "
            + "most): how likely THE LAW sends it to the CELL (or it stays in that): a fraction in lowest terms.");
        // Nothing is likely, all is, and it stays for certain.
        Script stays = run("one 0 0 0", "wear 1 95", "wear 5 95");
        fraction(stays, 0, 1, 1);
        fraction(stays, 1, 0, 1);
        stays.then("wear 1 85");
        fraction(stays, 0, 1, 25);
        fraction(stays, 1, 24, 25);
        stays.then("wear 1 84");
        fraction(stays, 0, 0, 1);
        fraction(stays, 1, 1, 1);
        // The cat's 10 reach as far as a wear that was 9 less, and as far as one that was 10 less where it is named first.
        Script right = run("one 0 0 12", "wear 7 14");
        fraction(right, 13, 1, 25);
        right.then("wear 7 15");
        fraction(right, 13, 0, 1);
        Script above = run("one 0 0 12", "wear 13 15");
        fraction(above, 7, 1, 25);
        above.then("wear 13 16");
        fraction(above, 7, 0, 1);
        // 99 at most: 90 and 10 are 99, not 100, which is not more than 99 less 98 had been.
        Script most = run("one 0 0 12", "law draw 1 c=7;bald 99 = 0", "wear 7 88", "wear 13 88");
        fraction(most, 7, 24, 25);
        fraction(most, 13, 1, 25);
        most.then("wear 13 89");
        fraction(most, 7, 1, 1);
        // The most that a cat can turn: each of the four cells, trodden, sends it another way.
        Script four = run("one 0 0 12", "wear 7 85", "wear 13 80", "wear 17 80", "wear 11 80");
        fraction(four, 7, 21, 25);
        fraction(four, 13, 2, 25);
        fraction(four, 17, 1, 25);
        fraction(four, 11, 1, 25);
        Script socks = run("one 2 0 12");
        fraction(socks, 7, 24, 25);
        fraction(socks, 13, 1, 25);
        fraction(socks, 17, 0, 1);
        run("one 0 0 12", "away 0 true", "odds 0 7 0 = 22", "told 3 = 125", "of 0 3 = 1");
    }

    private static void meanRefused() {
        CHECK.says("MEAN; part likewise. NO: n, part.");
        run("mean -1 0 = NO", "mean 41 0 = NO", "mean MIN 0 = NO", "mean MAX 0 = NO", "mean 0 -1 = NO", "mean 0 2 = NO",
            "mean 0 MIN = NO", "mean 0 MAX = NO", "mean 41 2 = NO", "mean 0 0 = 5", "mean 0 1 = 1", "mean 40 0 = 1",
            "mean 40 1 = 1", "told 0 = 0");
    }

    private static void mean() {
        CHECK.says("MEAN of n HOURS (0 .. 40): WEAR of all CELLS behind n, together, by 25: a fraction in lowest terms.");
        Script x = run().each(0, 24, "wear # 0").then("mean 0 0 = 0", "mean 0 1 = 1", "mean 40 0 = 0", "mean 40 1 = 1");
        x.each(0, 24, "wear # 99").then("mean 0 0 = 99", "mean 0 1 = 1", "mean 40 0 = 95", "mean 9 0 = 99", "mean 10 0 = 98",
            "wear 24 98", "mean 0 0 = 2474", "mean 0 1 = 25", "wear 24 94", "mean 0 0 = 494", "mean 0 1 = 5", "wear 24 74",
            "mean 0 0 = 98", "mean 0 1 = 1", "told 3 = 2450");
        run("one 1 0 12", "mean 1 0 = 128", "mean 1 1 = 25", "mean 5 0 = 28", "mean 5 1 = 5", "of 0 2 = 12");
    }
}
