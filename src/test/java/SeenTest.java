/** Promises 16 to 20: seen, odds. */
public final class SeenTest {
    private static final Checker CHECK = new Checker();
    private static final long NO = Long.MIN_VALUE;

    public static void main(String[] args) {
        see();
        from();
        can();
        odds();
        mean();
        CHECK.end();
    }

    private static void due(String call, long got, long want) {
        CHECK.due(call, got, want);
    }

    private static void see() {
        CHECK.about("16 see");
        CarpetsLaw x = new CarpetsLaw();
        due("no such one", x.see(0, 0, 0), -1);
        due("none then", x.see(-1, 99, 99), 0);
        x.one(0, 0, 12);
        due("person 1", x.see(1, 0, 0), -1);
        due("person -2", x.see(-2, 0, 0), -1);
        due("cell -1", x.see(0, 0, -1), -1);
        due("cell 25", x.see(0, 0, 25), -1);
        due("n -1", x.see(0, -1, 0), -2);
        due("n 9", x.see(0, 9, 0), -2);
        due("cell ahead of n", x.see(0, 9, 25), -1);
        for (int n = 1; n <= 5; n++) {
            due("how many", x.see(0, n + 3, n), n);
        }
        due("a sixth", x.see(0, 0, 0), -4);
        due("n ahead of full", x.see(0, 9, 0), -2);
        due("cell ahead of full", x.see(0, 0, 25), -1);
        due("count(2)", x.count(2), 5);
        due("none then", x.see(-1, 0, 0), 0);
        due("count(2)", x.count(2), 0);
        due("one again", x.see(0, 0, 0), 1);
    }

    private static void from() {
        CHECK.about("17 from");
        CarpetsLaw x = new CarpetsLaw();
        due("no such one", x.from(0), -1);
        x.one(0, 0, 12);
        due("person -1", x.from(-1), -1);
        due("nothing is seen", x.from(0), (1 << 25) - 1);
        x.see(0, 0, 3);
        due("now", x.from(0), 1 << 3);
        x.see(-1, 0, 0);
        x.see(0, 1, 1);
        due("from below, or from the left of the first row", x.from(0), 1 << 6 | 1);
        x.see(0, 0, 6);
        due("all of it", x.from(0), 1 << 6);
        x.see(0, 2, 24);
        due("never", x.from(0), 0);
        due("nothing changed", x.of(0, 2), 12);
        due("nor the hour", x.told(0), 0);
        x.see(-1, 0, 0);
        x.wear(4, 99);
        x.wear(0, 99);
        x.see(0, 1, 9);
        due("it may stand on a bald one", x.from(0), 1 << 4 | 1 << 14);
        x.see(-1, 0, 0);
        x.see(0, 8, 24);
        x.away(0, true);
        due("one who is away stays there", x.from(0), 1 << 24);

        // The other one goes where this one has worn the way.
        CarpetsLaw y = new CarpetsLaw();
        y.one(0, 0, 0);
        y.one(0, 0, 12);
        y.see(1, 1, 13);
        due("so that the other one goes to 13", y.from(0), 1 << 18);
        y.see(-1, 0, 0);
        y.see(1, 1, 7);
        due("or to 7", y.from(0), (1 << 25) - 1 - (1 << 18) - (1 << 22) - (1 << 16));
    }

    private static void can() {
        CHECK.about("18 can");
        CarpetsLaw x = new CarpetsLaw();
        due("no such one", x.can(0, 0), -1);
        x.one(0, 3, 12);
        x.one(1, 4, 24);
        due("person -1", x.can(-1, 0), -1);
        due("what -1", x.can(0, -1), -1);
        due("what 2", x.can(0, 2), -1);
        due("nothing is seen", x.can(0, 0), 10);
        due("the least", x.can(0, 1), 0);
        due("statute", Checker.statute(x, "draw 9 v>4&v<8&c=13"), 0);
        x.see(0, 1, 13);
        due("5, 6, 7", x.can(0, 0), 3);
        due("5", x.can(0, 1), 5);
        due("by the other one's v: none", x.can(1, 0), 0);
        due("none", x.can(1, 1), -5);
        x.see(-1, 0, 0);
        x.see(0, 1, 7);
        due("all but those", x.can(0, 0), 7);
        due("0", x.can(0, 1), 0);
        due("any of the other one", x.can(1, 0), 10);
        due("nothing changed", x.of(0, 1), 3);
        due("nor the cell", x.of(0, 2), 12);
        Checker.statute(x, "draw 9 v=9&c=13");
        x.see(-1, 0, 0);
        x.see(0, 1, 13);
        due("9 alone", x.can(0, 0), 1);
        due("9", x.can(0, 1), 9);
    }

    private static void odds() {
        CHECK.about("19 odds");
        CarpetsLaw x = new CarpetsLaw();
        due("no such one", x.odds(0, 0, 0), NO);
        x.one(0, 0, 12);
        due("person -1", x.odds(-1, 0, 0), NO);
        due("cell 25", x.odds(0, 25, 0), NO);
        due("cell -1", x.odds(0, -1, 0), NO);
        due("part -1", x.odds(0, 0, -1), NO);
        due("part 2", x.odds(0, 0, 2), NO);
        fraction(x, 0, 7, 22, 25);
        fraction(x, 0, 13, 1, 25);
        fraction(x, 0, 17, 1, 25);
        fraction(x, 0, 11, 1, 25);
        fraction(x, 0, 12, 0, 1);
        fraction(x, 0, 24, 0, 1);
        x.wear(17, 30);
        fraction(x, 0, 17, 1, 1);
        x.wear(17, 90);
        fraction(x, 0, 17, 24, 25);
        fraction(x, 0, 7, 1, 25);
        due("nothing changed", x.told(27), 90);
        due("nothing of 7", x.told(17), 5);
        x.wear(17, 5);
        x.wear(7, 15);
        fraction(x, 0, 7, 1, 1);
        x.wear(7, 14);
        fraction(x, 0, 7, 22, 25);
        x.away(0, true);
        fraction(x, 0, 7, 22, 25);
        x.put(0, 0);
        x.wear(1, 99);
        x.wear(5, 99);
        fraction(x, 0, 0, 1, 1);
        x.wear(1, 85);
        fraction(x, 0, 0, 1, 25);
        fraction(x, 0, 1, 24, 25);
        Checker.statute(x, "bald 99");
        x.wear(1, 95);
        x.wear(5, 98);
        due("98 and 10 are 99: bald", x.odds(0, 5, 0), 24);
        x.wear(5, 89);
        x.wear(1, 98);
        due("99 at most: no draw by 10", x.odds(0, 1, 0), 24);
    }

    private static void fraction(CarpetsLaw x, int person, int cell, long above, long below) {
        due("odds(" + person + ", " + cell + ", 0)", x.odds(person, cell, 0), above);
        due("odds(" + person + ", " + cell + ", 1)", x.odds(person, cell, 1), below);
    }

    private static void mean() {
        CHECK.about("20 mean");
        CarpetsLaw x = new CarpetsLaw();
        due("n -1", x.mean(-1, 0), NO);
        due("n 41", x.mean(41, 0), NO);
        due("part -1", x.mean(0, -1), NO);
        due("part 2", x.mean(0, 2), NO);
        due("5", x.mean(0, 0), 5);
        due("by 1", x.mean(0, 1), 1);
        due("4 behind 10", x.mean(10, 0), 4);
        due("1 behind 40", x.mean(40, 0), 1);
        x.one(0, 0, 12);
        due("127", x.mean(1, 0), 127);
        due("by 25", x.mean(1, 1), 25);
        due("135 by 25: 27", x.mean(5, 0), 27);
        due("by 5", x.mean(5, 1), 5);
        due("120 by 25: 24", x.mean(10, 0), 24);
        Checker.wearAll(x, 0);
        x.away(0, true);
        due("0", x.mean(3, 0), 0);
        due("by 1", x.mean(3, 1), 1);
        due("nothing changed", x.told(0), 0);
    }
}
