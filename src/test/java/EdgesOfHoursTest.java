/** The edges of promises 12 to 15: hours, what is asked of hours to come, steps, block, night. */
public final class EdgesOfHoursTest {
    private static final Checker CHECK = new Checker();

    public static void main(String[] args) {
        pass();
        on();
        beyondLastHour();
        wayRefused();
        gets();
        steps();
        block();
        blockTies();
        nightRefused();
        night();
        CHECK.end();
    }

    private static Script run(String... steps) {
        return Script.run(CHECK, steps);
    }

    private static int distance(int a, int b) {
        return Math.abs(a / 5 - b / 5) + Math.abs(a % 5 - b % 5);
    }

    private static void pass() {
        CHECK.says("n HOURS (0 .. 60) go: HOUR. BAD; STATE: it would be above 9999.");
        run("pass 0 = 0", "pass 60 = 60", "pass 61 = BAD", "pass -1 = BAD", "pass MIN = BAD", "pass MAX = BAD",
            "told 0 = 60", "pass 1 = 61");
        run("one 0 0 12", "away 0 true").untilHour(9939).then("pass 60 = 9999", "pass 0 = 9999", "pass 1 = STATE",
            "pass 60 = STATE", "pass 61 = BAD", "pass -1 = BAD", "pass MAX = BAD", "told 0 = 9999");
        run("one 0 0 12", "away 0 true").untilHour(9940).then("away 0 false", "pass 60 = STATE", "told 0 = 9940",
            "of 0 2 = 12", "told 3 = 0", "pass 59 = 9999");
        run().untilHour(9998).then("pass 2 = STATE", "pass 1 = 9999");
        // The image brings back the hour, and so the room for more of them.
        run("image").untilHour(9999).then("pass 1 = STATE", "undo = 0", "told 0 = 0", "pass 60 = 60");
        // Nothing goes in no hours.
        run("one 0 0 12", "pass 0 = 0", "of 0 2 = 12", "told 3 = 125", "pass 10 = 10", "pass 0 = 10", "told 3 = 120");
    }

    private static void on() {
        CHECK.says("ON: what 0 how many are BALD, 10 and c WEAR of CELL c, 40 and p the CELL of PERSON p. NONE; BAD: n.");
        CHECK.says("ON n HOURS (0 .. 40): CELL of one; WEAR of a CELL; how many are BALD.");
        for (int people : new int[] {0, 1, 6}) {
            Script x = run().times(people, "one 0 0 12");
            for (int what : new int[] {-1, 1, 9, 35, 39, 40 + people, 46, 50}) {
                x.then("on 0 " + what + " = NONE", "on -1 " + what + " = NONE", "on 41 " + what + " = NONE");
            }
            x.then("on 0 MIN = NONE", "on 0 MAX = NONE", "on 0 0 = 0", "on 0 10 = 5", "on 0 34 = 5", "on -1 0 = BAD",
                "on 41 0 = BAD", "on -1 10 = BAD", "on 41 34 = BAD", "on MIN 0 = BAD", "on MAX 0 = BAD");
            CHECK.holds("40 hours may be asked", x.ask("on 40 0") >= 0 && x.ask("on 40 34") >= 0);
            for (int person = 0; person < people; person++) {
                x.then("on 0 " + (40 + person) + " = 12", "on 1 " + (40 + person) + " = 7",
                    "on 41 " + (40 + person) + " = BAD", "on -1 " + (40 + person) + " = BAD");
            }
        }
        // Forty hours bring four springs, from hour 0 on as from hour 9.
        run("wear 0 99", "on 9 10 = 99", "on 10 10 = 98", "on 39 10 = 96", "on 40 10 = 95", "on 40 0 = 1", "pass 9",
            "on 1 10 = 98", "on 40 10 = 95", "on 31 10 = 95", "on 30 10 = 96", "told 0 = 9", "told 10 = 99");
        run("wear 0 98", "on 40 0 = 0", "on 39 0 = 1");
        run().each(0, 24, "wear # 0").then("on 40 10 = 0");
        // It goes by all that is theirs: the kind and v of the last one as of the first.
        run().times(5, "one 2 1 0").then("one 0 7 12", "law draw 9 v=7&c=13 = 0", "on 1 45 = 13", "can 5 0 = 10", "see 5 1 13",
            "can 5 0 = 1", "can 5 1 = 7", "on 1 45 = 13", "way 5 13 0 = 1", "night 5 13 = 0", "odds 5 13 0 = 22");
        // One who is away is where it is behind forty hours, too.
        run("one 0 0 12", "away 0 true", "on 40 40 = 12", "on 40 22 = 1");
    }

    private static void beyondLastHour() {
        CHECK.says("All that follows is asked, goes on from how all is (HOURS beyond 9999, too), and changes nothing.");
        Script x = run("one 3 0 0", "away 0 true", "law draw 20 h=9&c=5;draw 20 h=0&c=10 = 0").untilHour(9999);
        // From 6 and from 10 one is drawn to 5 as well, and then to 10.
        x.each(0, 24, "wear # 9").then("away 0 false", "on 1 40 = 5", "on 1 10 = 8", "on 2 40 = 10", "on 1 15 = 14",
            "on 40 10 = 5", "way 0 5 0 = 1", "way 0 10 0 = 2", "way 0 24 1 = 8", "mean 1 0 = 206", "mean 1 1 = 25",
            "plan 0 0", "ends 0 = 206", "see 0 1 5", "see 0 2 10", "from 0 = 1089", "can 0 0 = 10", "told 0 = 9999",
            "of 0 2 = 0", "told 10 = 9", "pass 1 = STATE", "told 0 = 9999");
    }

    private static void wayRefused() {
        CHECK.says("Of one and a CELL what 0 GETS, 1 STEPS, 2 BLOCK; -5. NONE.");
        Script x = run("way 0 0 0 = NONE", "one 0 0 12");
        for (int what = 0; what < 3; what++) {
            x.then("way 1 0 " + what + " = NONE", "way -1 0 " + what + " = NONE", "way MIN 0 " + what + " = NONE",
                "way MAX 0 " + what + " = NONE", "way 0 -1 " + what + " = NONE", "way 0 25 " + what + " = NONE",
                "way 0 MIN " + what + " = NONE", "way 0 MAX " + what + " = NONE");
        }
        x.then("way 0 12 -1 = NONE", "way 0 12 3 = NONE", "way 0 12 MIN = NONE", "way 0 12 MAX = NONE", "way 0 12 0 = 0",
            "way 0 0 0 = NEVER", "way 0 24 0 = NEVER", "way 0 0 1 = 4", "way 0 24 1 = 4", "way 0 12 2 = NEVER");
        run().times(6, "one 0 0 12").then("way 5 12 0 = 0", "way 6 12 0 = NONE");
    }

    private static void gets() {
        CHECK.says("GETS of one to a CELL: the fewest HOURS (0 .. 40) behind which it is there (-5: not by then).");
        // Fenced in by 98 at 1, which the spring of hour 40 makes 94: one is there an hour later.
        for (int hour = 0; hour < 4; hour++) {
            Script x = run("one 2 0 0", "wear 5 99", "wear 1 98", "pass " + hour);
            x.then("way 0 1 0 = " + (hour == 0 ? -5 : 41 - hour), "way 0 0 0 = 0");
        }
        run("one 0 0 12", "way 0 12 0 = 0", "way 0 7 0 = 1", "way 0 2 0 = 2", "way 0 17 0 = NEVER", "away 0 true",
            "way 0 12 0 = 0", "way 0 7 0 = NEVER");
        // It comes by more than once: the fewest hours count.
        run("one 0 0 12", "on 1 40 = 7", "on 3 40 = 7", "way 0 7 0 = 1");
        // Others go, too, ahead of it and behind it.
        run("one 0 0 12", "one 0 0 14", "wear 13 94", "way 1 13 0 = NEVER", "away 0 true", "way 1 13 0 = 1");
        run("one 0 0 14", "one 0 0 12", "wear 13 94", "way 0 13 0 = 1");
    }

    private static void steps() {
        CHECK.says("STEPS of one to a CELL: the fewest from CELL to CELL next to it, none of them BALD but, maybe, its own, by "
            + "which it could be there (-5: by none).");
        run("one 0 0 0", "way 0 0 1 = 0", "way 0 24 1 = 8", "wear 24 94", "way 0 24 1 = 8", "wear 24 95",
            "way 0 24 1 = NEVER", "wear 0 95", "way 0 0 1 = 0", "way 0 23 1 = 7", "wear 0 99", "way 0 0 1 = 0");
        for (int cell = 0; cell < 25; cell++) {
            int own = cell == 12 ? 13 : 12;
            run("one 0 0 " + own, "wear " + cell + " 94", "way 0 " + cell + " 1 = " + distance(own, cell),
                "wear " + cell + " 95", "way 0 " + cell + " 1 = NEVER", "put 0 " + cell, "way 0 " + cell + " 1 = 0",
                "way 0 " + own + " 1 = " + distance(own, cell));
        }
        run("one 0 0 0", "wear 1 95", "way 0 2 1 = 4", "way 0 1 1 = NEVER", "wear 5 95", "way 0 2 1 = NEVER",
            "way 0 0 1 = 0", "wear 5 94", "way 0 2 1 = 4");
        // The longest way there is: a snake through the hall.
        Script snake = run("one 0 0 0");
        for (int cell : new int[] {5, 6, 7, 8, 16, 17, 18, 19}) {
            snake.then("wear " + cell + " 95");
        }
        snake.then("way 0 24 1 = 16", "way 0 20 1 = 12", "way 0 10 1 = 10", "wear 15 95", "way 0 24 1 = NEVER",
            "way 0 10 1 = 10");
        // People and statutes do not stand in the way; what is bald by a statute does.
        run("one 0 0 0", "one 0 0 1", "away 0 true", "law bar 99 c=1 = 0", "way 0 1 1 = 1", "law bald 5 = 1",
            "way 0 1 1 = NEVER", "way 0 0 1 = 0", "wear 1 4", "way 0 1 1 = 1", "law bald 0 = 2", "way 0 1 1 = NEVER");
    }

    private static void block() {
        CHECK.says("BLOCK of one and a CELL, as if all others were AWAY: the CELL, neither that nor its own, by which, were its "
            + "WEAR 99 now, GETS of the one to the other is greatest, -5 being greater than all, if greater than as it is "
            + "(of several the first; -5: none).");
        // Down the left side: every cell between stops it, the first is the answer.
        Script left = run("one 0 0 0", "wear 5 10", "wear 10 20", "wear 15 30", "wear 20 40");
        left.then("way 0 20 0 = 4", "way 0 20 2 = 5", "way 0 10 2 = 5", "way 0 5 2 = NEVER", "way 0 0 2 = NEVER",
            "way 0 24 2 = NEVER", "told 15 = 10", "of 0 2 = 0", "told 0 = 0");
        // The cell with the highest number and the one with the lowest can be it.
        run("one 0 0 23", "wear 18 95", "wear 24 20", "wear 19 30", "way 0 19 0 = 2", "way 0 19 2 = 24");
        run("one 0 0 1", "wear 0 20", "wear 5 30", "way 0 5 0 = 2", "way 0 5 2 = 0");
        // To be 99 is nothing new for a cell that is bald already.
        run("one 0 0 0", "wear 1 95", "wear 5 94", "way 0 5 0 = 1", "way 0 5 2 = NEVER");
        // Another one would stop it, were it not as if away; the one itself stays away if it is.
        run("one 0 0 7", "one 0 0 0", "wear 1 10", "wear 2 94", "way 1 2 0 = NEVER", "way 1 2 2 = 1", "of 0 3 = 0",
            "away 1 true", "way 1 2 2 = NEVER", "of 1 3 = 1");
        // Another one would wear the way; as if it were away one never gets there, so none can be greater.
        run("one 3 0 2", "one 0 0 6", "wear 7 6", "wear 11 8", "way 1 7 0 = 1", "way 1 7 2 = NEVER", "away 0 true",
            "way 1 7 0 = NEVER", "way 1 7 2 = NEVER");
    }

    private static void blockTies() {
        // A hall that is bald but for its first row: 99, where 99 is bald, can be crossed from hour 10 on.
        Script row = run().each(5, 24, "wear # 99").then("wear 0 60", "wear 1 50", "wear 2 40", "wear 3 20", "wear 4 10",
            "one 0 0 4", "law bald 99;bar 99 c>4 = 0");
        row.then("way 0 0 0 = 4", "way 0 0 2 = 2", "way 0 2 2 = 3", "way 0 3 2 = NEVER", "way 0 1 2 = 2");
        // Never is greater than the latest hour: 40 as it is, and still one cell stops it.
        run("one 2 0 0", "wear 5 99", "wear 1 98", "pass 2", "way 0 2 0 = 40", "way 0 2 2 = 1");
        // By 1 and 2 it only comes later, by 3, where it has worn its own cell too much by then, never.
        Script never = run().each(5, 24, "wear # 99").then("wear 0 60", "wear 1 50", "wear 2 25", "wear 3 20", "wear 4 10",
            "one 0 0 4", "law bald 99;bar 99 c>4 = 0", "way 0 0 0 = 4");
        never.then("wear 1 99", "way 0 0 0 = 12", "wear 1 50", "wear 2 99", "way 0 0 0 = 14", "wear 2 25", "wear 3 99",
            "way 0 0 0 = NEVER", "wear 3 20", "way 0 0 2 = 3");
    }

    private static void nightRefused() {
        CHECK.says("NIGHT; -5. NONE; BAD: it is not next to its own.");
        run("night 0 1 = NONE", "one 0 0 0", "night 0 1 = 0", "night 0 5 = 1", "night 0 0 = BAD", "night 0 2 = BAD",
            "night 0 6 = BAD", "night 0 24 = BAD", "night 0 25 = NONE", "night 0 -1 = NONE", "night 0 MIN = NONE",
            "night 0 MAX = NONE", "night 1 1 = NONE", "night -1 1 = NONE", "night MIN 1 = NONE", "night MAX 1 = NONE",
            "night 1 25 = NONE", "put 0 24", "night 0 25 = NONE", "night 0 29 = NONE", "night 0 19 = 0", "night 0 23 = 1",
            "night 0 0 = BAD", "put 0 4", "night 0 5 = BAD", "night 0 -1 = NONE", "put 0 5", "night 0 4 = BAD",
            "told 3 = 125");
    }

    private static void night() {
        CHECK.says("NIGHT of one and a CELL next to its own: the least number (0 .. 99) by which, were WEAR of that so much more "
            + "now (99 at most), THE LAW would send it there (-5: by none).");
        // 98 is the most that can help, as 99 is bald by every statute.
        run("one 0 0 12", "law bald 99 = 0", "wear 13 0", "wear 7 97", "night 0 13 = 98", "wear 7 98", "night 0 13 = NEVER",
            "wear 13 97", "night 0 13 = NEVER", "night 0 7 = 0", "wear 7 0", "wear 13 98", "night 0 7 = 98", "wear 7 98",
            "night 0 7 = 0", "wear 7 99", "night 0 7 = NEVER", "wear 13 99", "night 0 17 = 0", "night 0 13 = NEVER");
        run("one 0 0 12", "wear 7 93", "night 0 13 = 89", "wear 7 94", "night 0 13 = NEVER", "wear 7 95", "night 0 13 = 0",
            "wear 13 95", "night 0 13 = NEVER");
        // More can make one go there that less did not, by what the statutes say of wear.
        run("one 2 0 12", "night 0 7 = 0", "night 0 13 = NEVER", "law bar 99 w=2&c=13 = 0", "night 0 13 = 15",
            "law bar 99 w=9&c=13 = 1", "night 0 13 = 85", "law bar 99 w=9&c=13;bald 90 = 2", "night 0 13 = NEVER");
        run("one 0 0 12", "away 0 true", "wear 7 9", "night 0 13 = 5", "told 23 = 5", "of 0 3 = 1");
        run("one 0 0 12", "law bald 0 = 0", "night 0 7 = NEVER", "law bald 5 = 1", "night 0 7 = NEVER", "wear 7 4",
            "night 0 7 = 0");
        run("one 3 0 12", "away 0 true", "pass 1", "wear 7 11", "night 0 13 = 7", "wear 7 10", "night 0 13 = 7");
    }
}
