/** The edges of promises 1 to 11: the first and last numbers allowed, what is refused, and which refusal is first. */
public final class EdgesOfPeopleTest {
    private static final Checker CHECK = new Checker();

    public static void main(String[] args) {
        newObject();
        one();
        of();
        pull();
        put();
        wear();
        away();
        row();
        feed();
        statute();
        told();
        beating();
        CHECK.end();
    }

    private static Script run(String... steps) {
        return Script.run(CHECK, steps);
    }

    private static void newObject() {
        CHECK.says("No PEOPLE, no STATUTE.");
        run().each(0, 6, "count # = 0").then("told 0 = 0", "told 1 = 95", "told 2 = 0", "told 3 = 125", "told 4 = 0");
        run().each(0, 5, "of # 0 = NONE").each(0, 5, "of # 4 = NONE").each(0, 5, "pull # 0 = -10001")
            .each(0, 5, "put # 0 = NONE").each(0, 5, "away # true = NONE").each(0, 5, "row # 0 0 = NONE")
            .each(0, 5, "way # 0 0 = NONE").each(0, 5, "night # 1 = NONE").each(0, 5, "see # 0 0 = NONE")
            .each(0, 5, "from # = NONE").each(0, 5, "can # 0 = NONE").each(0, 5, "odds # 0 0 = NO")
            .each(0, 5, "plan 2 # = NONE").each(0, 5, "plan 3 # = NONE").each(0, 5, "book # 0 = NONE")
            .each(0, 5, "act # 0 7 = 0").each(0, 5, "taken # 0 = NOTHING").each(40, 45, "on 0 # = NONE")
            .then("told 3 = 125").each(0, 6, "count # = 0");
        run("trace 0 = NONE", "looked = NEVER", "undo = STATE", "ends 0 = 125", "ends 1 = 0", "on 40 0 = 0",
            "mean 0 0 = 5", "mean 0 1 = 1", "statute = -10", "pass 0 = 0").each(0, 5, "judge # 0 = 100")
            .each(0, 5, "read # 0 = NO").each(0, 5, "item # 0 0 = NOTHING");
    }

    private static void one() {
        CHECK.says("One more: its number. NONE: kind, cell; BAD: v; FULL: 6.");
        String[] none = {
            "-1 0 0", "7 0 0", "MIN 0 0", "MAX 0 0", "0 0 -1", "0 0 25", "0 0 MIN", "0 0 MAX", "7 10 0", "0 10 25",
            "-1 -1 -1", "7 0 25", "0 -1 -1"
        };
        String[] bad = {"0 -1 0", "0 10 0", "6 10 24", "6 -1 24", "0 MIN 0", "0 MAX 0"};
        Script x = run();
        for (int people = 0; people <= 6; people++) {
            for (String with : none) {
                x.then("one " + with + " = NONE");
            }
            for (String with : bad) {
                x.then("one " + with + " = BAD");
            }
            x.then("count 0 = " + people);
            if (people < 6) {
                x.then("one 6 9 24 = " + people, "of " + people + " 2 = 24");
            } else {
                x.then("one 0 0 0 = FULL", "one 6 9 24 = FULL", "count 0 = 6", "of 5 0 = 6");
            }
        }
        for (int kind = 0; kind < 7; kind++) {
            run("one " + kind + " 0 0 = 0", "of 0 0 = " + kind, "of 0 1 = 0", "of 0 2 = 0", "one " + kind + " 9 24 = 1",
                "of 1 0 = " + kind, "of 1 1 = 9", "of 1 2 = 24");
        }
        // After an undo those who came behind the image are none any more: their numbers are given again.
        run("one 0 1 2 = 0", "image = 1", "one 6 1 3 = 1", "row 1 2 9 = 0", "away 1 true", "undo = 1", "of 1 0 = NONE",
            "one 6 4 5 = 1", "row 1 2 0 = 0", "of 1 3 = 0", "of 1 1 = 4");
        run().times(6, "one 0 0 0").then("image = 6", "one 0 0 0 = FULL", "undo = 6", "one 0 0 0 = FULL");
        run("image = 0").times(6, "one 0 0 0").then("one 0 0 0 = FULL", "undo = 0", "count 0 = 0", "one 1 2 3 = 0");
    }

    private static void of() {
        CHECK.says("Of one what 0 KIND, 1 v, 2 CELL, 3 whether it is AWAY, 4 where THE LAW sends it (its own, if it "
            + "stays), 5 TREAD. NONE.");
        run("one 4 9 24", "of 0 0 = 4", "of 0 1 = 9", "of 0 2 = 24", "of 0 3 = 0", "of 0 4 = 19", "of 0 5 = 3",
            "of 0 -1 = NONE", "of 0 6 = NONE", "of 0 MIN = NONE", "of 0 MAX = NONE", "of 1 0 = NONE", "of -1 0 = NONE",
            "of 1 5 = NONE", "of MIN 0 = NONE", "of MAX 0 = NONE", "of 1 6 = NONE", "away 0 true", "of 0 3 = 1",
            "of 0 4 = 19", "wear 19 95", "of 0 4 = 23", "wear 23 94", "of 0 4 = 23", "wear 23 95", "of 0 4 = 24",
            "away 0 false", "of 0 3 = 0", "of 0 4 = 24");
        run().times(6, "one 1 2 3").each(0, 5, "of # 1 = 2").then("of 6 1 = NONE");
    }

    private static void pull() {
        CHECK.says("PULL of a CELL (any) on one. -10001: NONE.");
        CHECK.says("Where it may be below 0, -10001 stands for NONE.");
        run("one 0 0 0").each(0, 24, "pull 0 # = 5").then("pull 0 -1 = -10001", "pull 0 25 = -10001", "pull 0 MIN = -10001",
            "pull 0 MAX = -10001", "pull 1 0 = -10001", "pull -1 0 = -10001", "pull MIN 0 = -10001", "pull MAX 0 = -10001",
            "pull 1 25 = -10001", "law bar 6 p=0 = 0", "pull 0 0 = -1", "wear 24 99", "pull 0 24 = 93", "put 0 24 = 0",
            "pull 0 24 = 93");
        run().times(6, "one 2 0 0").then("pull 5 0 = -5", "pull 6 0 = -10001");
    }

    private static void put() {
        CHECK.says("One comes to a CELL: where it was. NONE.");
        run("one 0 0 3", "put 0 0 = 3", "put 0 24 = 0", "put 0 24 = 24", "put 0 25 = NONE", "put 0 -1 = NONE",
            "put 0 MIN = NONE", "put 0 MAX = NONE", "put 1 0 = NONE", "put -1 0 = NONE", "put MIN 0 = NONE",
            "put MAX 0 = NONE", "put 1 25 = NONE", "of 0 2 = 24", "told 3 = 125", "told 0 = 0");
        run("one 0 0 3", "away 0 true", "wear 7 99", "put 0 7 = 3", "of 0 2 = 7", "of 0 3 = 1", "told 17 = 99");
        run().times(6, "one 0 0 9").then("put 5 9 = 9", "put 6 9 = NONE");
    }

    private static void wear() {
        CHECK.says("WEAR of a CELL becomes n (0 .. 99): what it was. NONE; BAD.");
        run("wear 0 0 = 5", "wear 0 99 = 0", "wear 0 99 = 99", "wear 24 0 = 5", "wear 24 99 = 0", "wear -1 0 = NONE",
            "wear 25 0 = NONE", "wear MIN 0 = NONE", "wear MAX 0 = NONE", "wear 0 -1 = BAD", "wear 0 100 = BAD",
            "wear 0 MIN = BAD", "wear 0 MAX = BAD", "wear -1 -1 = NONE", "wear 25 100 = NONE", "told 10 = 99",
            "told 34 = 99", "told 3 = 313");
    }

    private static void away() {
        CHECK.says("One is AWAY, or not: whether it was. NONE.");
        run("away 0 false = NONE", "one 0 0 0", "away 0 false = 0", "away 0 true = 0", "away 0 true = 1",
            "away 0 false = 1", "away 0 false = 0", "away 1 true = NONE", "away -1 true = NONE", "away MIN true = NONE",
            "away MAX false = NONE", "of 0 3 = 0", "one 0 0 0 = 1", "of 1 3 = 0");
        run().times(6, "one 0 0 0").then("away 5 true = 0", "away 6 true = NONE", "of 4 3 = 0", "of 5 3 = 1");
    }

    private static void row() {
        CHECK.says("The ROW of a TOLD one becomes n (0 .. 9) for HOURS modulo 4 being part: what it was. NONE: person, part; "
            + "BAD; STATE: another KIND.");
        Script x = run("one 6 0 0");
        for (int part = 0; part < 4; part++) {
            x.then("row 0 " + part + " 0 = 0", "row 0 " + part + " 9 = 0", "row 0 " + part + " 9 = 9",
                "row 0 " + part + " 10 = BAD", "row 0 " + part + " -1 = BAD", "row 0 " + part + " MIN = BAD",
                "row 0 " + part + " MAX = BAD", "row 0 " + part + " " + (part + 1) + " = 9");
        }
        x.then("row 0 -1 0 = NONE", "row 0 4 0 = NONE", "row 0 MIN 0 = NONE", "row 0 MAX 0 = NONE", "row 1 0 0 = NONE",
            "row -1 0 0 = NONE", "row MIN 0 0 = NONE", "row MAX 0 0 = NONE", "row 0 4 10 = NONE", "row 1 0 10 = NONE");
        x.each(0, 3, "row 0 # 0").then("row 0 0 0 = 0");
        for (int kind = 0; kind < 6; kind++) {
            run("one " + kind + " 0 0", "row 0 0 0 = STATE", "row 0 3 9 = STATE", "row 0 0 10 = BAD", "row 0 0 -1 = BAD",
                "row 0 4 0 = NONE", "row 0 -1 10 = NONE", "row 1 0 0 = NONE");
        }
        run().times(6, "one 6 0 0").then("row 5 3 9 = 0", "row 4 3 1 = 0", "row 5 3 0 = 9", "row 6 0 0 = NONE",
            "row 0 0 0 = 0");
    }

    private static void feed() {
        CHECK.says("A sign (0 .. 127) comes behind THE TEXT's: how many it has. BAD; FULL.");
        run("feed 0 = 1", "feed 127 = 2", "feed 128 = BAD", "feed -1 = BAD", "feed MIN = BAD", "feed MAX = BAD",
            "feed 256 = BAD", "feed 354 = BAD", "count 5 = 2", "statute = -10", "feed 98 = 1");
        Script x = run().each(1, 99, "feed 98 = #").then("count 5 = 99", "feed -1 = BAD", "feed 98 = 100", "feed 98 = FULL",
            "feed 0 = FULL", "feed 127 = FULL", "feed 128 = BAD", "feed -1 = BAD", "count 5 = 100", "statute = -11");
        x.then("count 5 = 0", "feed 98 = 1");
        // What was refused is not in the text.
        run("feed 98", "feed 128", "feed 97", "feed -1", "feed 108", "feed 100", "feed 32", "feed 57 = 6", "statute = 0",
            "told 1 = 9");
    }

    private static void statute() {
        CHECK.says("THE TEXT, which is empty then, is a STATUTE, and holds: its number.");
        run("law bald 9 = 0", "count 5 = 0", "statute = -10", "told 1 = 9", "law bald 8 = 1", "count 5 = 0", "told 1 = 8",
            "law bald x = -15", "count 5 = 0", "told 1 = 8", "law bald 7 = 2", "told 1 = 7", "count 1 = 3");
        // A longer text that went before, good or not, leaves nothing behind.
        run("one 0 0 0", "law draw 50 p=0&c<25;bald 33 = 0", "pull 0 0 = 55", "law bald 9 = 1", "pull 0 0 = 5",
            "law draw 50 p=0;bald 33x = -29", "pull 0 0 = 5", "told 1 = 9", "law bald 4 = 2", "pull 0 0 = 5",
            "law draw 1 p=0 = 3", "told 1 = 95", "pull 0 0 = 6");
        // An image taken under a statute keeps that one, though newer ones have come.
        run("one 0 0 0", "law draw 50 p=0;bald 33 = 0", "image = 1", "law draw 1 p=0 = 1", "law bald 2 = 2", "undo = 1",
            "pull 0 0 = 55", "told 1 = 33", "law draw 3 p=0x = -20", "pull 0 0 = 55", "law draw 3 p=0 = 3", "pull 0 0 = 8");
    }

    private static void told() {
        CHECK.says("What 0 HOUR, 1 BALD's number, 2 how many are BALD, 3 WEAR of all, together, 4 BEATING (-5), 10 and c WEAR "
            + "of CELL c. NONE.");
        run("told -1 = NONE").each(5, 9, "told # = NONE").each(10, 34, "told # = 5").each(35, 50, "told # = NONE")
            .then("told MIN = NONE", "told MAX = NONE", "told -10 = NONE", "wear 0 0", "told 10 = 0", "wear 24 99",
            "told 34 = 99", "told 3 = 214", "told 2 = 1");
        run().each(0, 24, "wear # 99").then("told 3 = 2475", "told 2 = 25", "told 4 = 5").each(0, 24, "wear # 0")
            .then("told 3 = 0", "told 2 = 0", "told 4 = 0");
        run().untilHour(9999).then("told 0 = 9999");
    }

    private static void beating() {
        CHECK.says("BEATING: the least number (0 .. 99) by which WEAR of each CELL must be less (0 at least), so that none is "
            + "BALD (-5: none).");
        run("told 4 = 0", "wear 24 94", "told 4 = 0", "wear 24 95", "told 4 = 1", "wear 0 99", "told 4 = 5",
            "wear 0 96", "told 4 = 2");
        run("law bald 1 = 0", "told 4 = 5", "wear 24 99", "told 4 = 99").each(0, 24, "wear # 0").then("told 4 = 0",
            "wear 3 1", "told 4 = 1");
        run("law bald 0 = 0", "told 4 = NEVER").each(0, 24, "wear # 0").then("told 4 = NEVER", "wear 0 99", "told 4 = NEVER");
        run("law bald 99 = 0", "wear 24 98", "told 4 = 0", "wear 24 99", "told 4 = 1");
    }
}
