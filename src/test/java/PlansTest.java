/** Promises 21 to 24: plans, books. */
public final class PlansTest {
    private static final Checker CHECK = new Checker();

    public static void main(String[] args) {
        plan();
        ends();
        book();
        looked();
        CHECK.end();
    }

    private static void due(String call, long got, long want) {
        CHECK.due(call, got, want);
    }

    private static void plan() {
        CHECK.about("21 plan");
        CarpetsLaw x = new CarpetsLaw();
        due("what -2", x.plan(-2, 0), -1);
        due("what 4", x.plan(4, 0), -1);
        due("cell -1", x.plan(1, -1), -1);
        due("cell 25", x.plan(1, 25), -1);
        due("no such one, by 2", x.plan(2, 0), -1);
        due("no such one, by 3", x.plan(3, 0), -1);
        due("empty", x.plan(-1, 99), 0);
        due("an hour", x.plan(0, 99), 1);
        due("a cell", x.plan(1, 24), 2);
        x.one(0, 0, 0);
        due("away", x.plan(2, 0), 3);
        due("back", x.plan(3, 0), 4);
        due("person 1", x.plan(2, 1), -1);
        due("person -1", x.plan(3, -1), -1);
        for (int n = 5; n <= 10; n++) {
            due("how many", x.plan(0, -7), n);
        }
        due("one more", x.plan(0, 0), -4);
        due("none ahead of full", x.plan(1, 25), -1);
        due("what ahead of full", x.plan(4, 0), -1);
        due("count(3)", x.count(3), 10);
        due("empty then", x.plan(-1, 0), 0);
        due("count(3)", x.count(3), 0);
        due("one again", x.plan(0, 0), 1);
    }

    private static void ends() {
        CHECK.about("22 ends");
        CarpetsLaw x = new CarpetsLaw();
        x.one(0, 0, 12);
        due("what -1", x.ends(-1), -1);
        due("what 2", x.ends(2), -1);
        due("as it is", x.ends(0), 125);
        due("none is bald", x.ends(1), 0);
        x.plan(0, 0);
        due("an hour", x.ends(0), 127);
        x.plan(1, 3);
        due("10 more", x.ends(0), 137);
        x.plan(2, 0);
        x.plan(0, 0);
        due("away", x.ends(0), 137);
        x.plan(3, 0);
        x.plan(0, 0);
        due("back", x.ends(0), 139);
        x.wear(3, 95);
        due("99 at most", x.ends(0), 139 - 15 + 99);
        due("it is bald", x.ends(1), 1);
        due("nothing changed", x.told(3), 215);
        due("nor the cell", x.of(0, 2), 12);
        due("nor who is away", x.of(0, 3), 0);
        due("nor the hour", x.told(0), 0);

        // The rows are taken in their order: the wear ahead of the hour draws one there.
        CarpetsLaw y = new CarpetsLaw();
        y.one(1, 0, 12);
        y.wear(17, 84);
        y.wear(7, 90);
        y.plan(1, 17);
        y.plan(0, 0);
        due("84 and 10 draw more than 90: bald then", y.ends(1), 1);
        y.plan(-1, 0);
        y.plan(0, 0);
        y.plan(1, 17);
        due("90 and 3, then 94", y.ends(1), 0);
        y.plan(-1, 0);
        for (int i = 0; i < 10; i++) {
            y.plan(0, 0);
        }
        y.away(0, true);
        due("ten hours, the tenth takes one of each", y.ends(0), 23 * 5 + 84 + 90 - 25);
    }

    private static void book() {
        CHECK.about("23 book");
        CarpetsLaw x = new CarpetsLaw();
        due("no such one", x.book(0, 0), -1);
        due("empty", x.book(-1, 99), 0);
        x.one(0, 0, 12);
        due("person 1", x.book(1, 0), -1);
        due("person -2", x.book(-2, 0), -1);
        due("cell 25", x.book(0, 25), -1);
        due("cell -1", x.book(0, -1), -1);
        for (int n = 1; n <= 8; n++) {
            due("how many", x.book(0, n), n);
        }
        due("one more", x.book(0, 0), -4);
        due("none ahead of full", x.book(0, 25), -1);
        due("count(4)", x.count(4), 8);
        due("empty then", x.book(-1, 0), 0);
        due("count(4)", x.count(4), 0);
        due("one again", x.book(0, 0), 1);
    }

    private static void looked() {
        CHECK.about("24 looked");
        CarpetsLaw x = new CarpetsLaw();
        x.one(0, 0, 12);
        x.one(2, 0, 3);
        due("nothing told", x.looked(), -5);
        x.book(0, 12);
        due("as it is", x.looked(), -5);
        x.book(1, 3);
        x.book(0, 12);
        due("all as it is", x.looked(), -5);
        x.book(1, 4);
        due("the fourth", x.looked(), 3);
        x.put(1, 4);
        due("the second, now", x.looked(), 1);
        x.pass(1);
        due("the first, then", x.looked(), 0);
        x.book(-1, 0);
        due("nothing told", x.looked(), -5);
    }
}
