/** Promises 12 to 15: hours. */
public final class HoursTest {
    private static final Checker CHECK = new Checker();

    public static void main(String[] args) {
        passOfOne();
        passOfSeveral();
        passNumbers();
        passSpring();
        on();
        gets();
        steps();
        block();
        night();
        beyondTheLastHour();
        CHECK.end();
    }

    private static void due(String call, long got, long want) {
        CHECK.due(call, got, want);
    }

    private static void passOfOne() {
        CHECK.about("12 pass, one walker");
        CarpetsLaw x = new CarpetsLaw();
        x.one(0, 0, 12);
        int[] cells = {7, 2, 7, 2, 7};
        int[] wear7 = {7, 7, 9, 9, 11};
        int[] wear2 = {5, 7, 7, 9, 9};
        for (int hour = 1; hour <= 5; hour++) {
            due("pass(1)", x.pass(1), hour);
            due("cell", x.of(0, 2), cells[hour - 1]);
            due("wear of 7", x.told(17), wear7[hour - 1]);
            due("wear of 2", x.told(12), wear2[hour - 1]);
        }
        due("all", x.told(3), 125 + 10);
        CarpetsLaw stays = new CarpetsLaw();
        stays.one(3, 0, 0);
        stays.wear(1, 95);
        stays.wear(5, 95);
        stays.pass(1);
        due("one who stays treads its own", stays.told(10), 11);
        stays.wear(0, 97);
        stays.pass(1);
        due("99 at most", stays.told(10), 99);
    }

    private static void passOfSeveral() {
        CHECK.about("12 pass, several");
        CarpetsLaw x = new CarpetsLaw();
        x.one(0, 0, 12);
        x.one(0, 0, 6);
        x.pass(1);
        due("the first", x.of(0, 2), 7);
        due("the second, where the first has worn", x.of(1, 2), 7);
        due("worn by both", x.told(17), 9);
        CarpetsLaw y = new CarpetsLaw();
        y.one(0, 0, 6);
        y.one(0, 0, 12);
        y.pass(1);
        due("the other way round", y.of(0, 2), 1);
        due("and the second", y.of(1, 2), 7);
        CarpetsLaw z = new CarpetsLaw();
        int[] treads = {2, 3, 1, 6, 3, 2};
        for (int kind = 0; kind < 6; kind++) {
            z.one(kind, 0, 0);
            for (int person = 0; person < kind; person++) {
                z.away(person, true);
            }
            int before = z.told(3);
            z.pass(1);
            due("tread of kind " + kind, z.told(3) - before, treads[kind]);
        }
    }

    private static void passNumbers() {
        CHECK.about("12 pass, numbers");
        CarpetsLaw x = new CarpetsLaw();
        due("n -1", x.pass(-1), -2);
        due("n 61", x.pass(61), -2);
        due("n 0", x.pass(0), 0);
        for (int i = 1; i <= 166; i++) {
            due("n 60", x.pass(60), i * 60);
        }
        due("above 9999", x.pass(40), -3);
        due("bad ahead of that", x.pass(61), -2);
        due("nothing changed", x.told(0), 9960);
        due("to 9999", x.pass(39), 9999);
        due("one more", x.pass(1), -3);
        due("none more", x.pass(0), 9999);
    }

    private static void passSpring() {
        CHECK.about("12 pass, every tenth hour");
        CarpetsLaw x = new CarpetsLaw();
        x.wear(3, 0);
        x.wear(4, 99);
        x.pass(9);
        due("hour 9", x.told(10), 5);
        x.pass(1);
        due("hour 10", x.told(10), 4);
        due("0 at least", x.told(13), 0);
        due("from 99", x.told(14), 98);
        x.pass(10);
        due("hour 20", x.told(3), 22 * 3 + 3 + 97);
        x.pass(60);
        due("hour 80", x.told(3), 91);
        CarpetsLaw y = new CarpetsLaw();
        y.one(3, 0, 0);
        y.wear(1, 99);
        y.wear(5, 99);
        y.wear(0, 98);
        y.pass(10);
        due("treads, then it is less", y.told(10), 98);
    }

    private static void on() {
        CHECK.about("13 on");
        CarpetsLaw x = new CarpetsLaw();
        x.one(0, 0, 12);
        x.wear(24, 95);
        for (int what : new int[] {-1, 1, 9, 35, 39, 41, 46, Integer.MIN_VALUE, Integer.MAX_VALUE}) {
            due("what " + what, x.on(0, what), -1);
            due("what ahead of n", x.on(41, what), -1);
        }
        due("n -1", x.on(-1, 0), -2);
        due("n 41", x.on(41, 0), -2);
        due("n 41 of one", x.on(41, 40), -2);
        due("behind 0", x.on(0, 40), 12);
        due("behind 1", x.on(1, 40), 7);
        due("behind 4", x.on(4, 40), 2);
        due("wear behind 4", x.on(4, 17), 9);
        due("bald behind 9", x.on(9, 0), 1);
        due("bald behind 10", x.on(10, 0), 0);
        due("wear behind 40", x.on(40, 34), 91);
        due("wear of 0 behind 40", x.on(40, 10), 1);
        due("nothing changed", x.told(0), 0);
        due("nor the cell", x.of(0, 2), 12);
        due("nor wear", x.told(3), 215);
    }

    /** A row of ever more worn cells, from 0 to 4. */
    private static CarpetsLaw corridor(int kind) {
        CarpetsLaw x = new CarpetsLaw();
        x.one(kind, 0, 0);
        for (int cell = 1; cell < 5; cell++) {
            x.wear(cell, cell * 10);
        }
        return x;
    }

    private static void wrongWay(int what) {
        CarpetsLaw x = corridor(0);
        due("person -1", x.way(-1, 0, what), -1);
        due("person 1", x.way(1, 0, what), -1);
        due("cell -1", x.way(0, -1, what), -1);
        due("cell 25", x.way(0, 25, what), -1);
        due("what -1", x.way(0, 0, -1), -1);
        due("what 3", x.way(0, 0, 3), -1);
    }

    private static void gets() {
        CHECK.about("14 way, gets");
        wrongWay(0);
        CarpetsLaw x = corridor(0);
        for (int cell = 0; cell < 5; cell++) {
            due("to " + cell, x.way(0, cell, 0), cell);
        }
        due("never", x.way(0, 24, 0), -5);
        due("nothing changed", x.told(0), 0);
        x.away(0, true);
        due("away, to its own", x.way(0, 0, 0), 0);
        due("away", x.way(0, 1, 0), -5);
        x.away(0, false);
        x.one(0, 0, 7);
        x.wear(2, 94);
        due("another one goes, too", x.way(0, 2, 0), -5);

        // One who is fenced in until, behind 40 hours, four springs have made the fence passable.
        CarpetsLaw y = new CarpetsLaw();
        y.one(2, 0, 0);
        y.wear(5, 99);
        y.wear(1, 98);
        due("at 39 it is still bald", y.way(0, 1, 0), -5);
        y.pass(1);
        due("from hour 1 on, the fence falls with hour 40, one is there an hour later", y.way(0, 1, 0), 40);
        due("the hour ahead of that it was not", y.on(39, 40), 0);
    }

    private static void steps() {
        CHECK.about("14 way, steps");
        wrongWay(1);
        CarpetsLaw x = new CarpetsLaw();
        x.one(0, 0, 0);
        for (int cell = 0; cell < 25; cell++) {
            due("to " + cell, x.way(0, cell, 1), cell / 5 + cell % 5);
        }
        x.wear(0, 99);
        due("its own may be bald", x.way(0, 24, 1), 8);
        due("and is there", x.way(0, 0, 1), 0);
        for (int cell : new int[] {1, 6, 11, 16, 8, 13, 18, 23}) {
            x.wear(cell, 95);
        }
        due("around one wall", x.way(0, 2, 1), 10);
        due("around two", x.way(0, 24, 1), 16);
        due("to a bald one", x.way(0, 1, 1), -5);
        x.wear(21, 95);
        due("walled off", x.way(0, 24, 1), -5);
        due("this side", x.way(0, 20, 1), 4);
        x.away(0, true);
        due("away or not", x.way(0, 20, 1), 4);
        CarpetsLaw y = new CarpetsLaw();
        y.one(0, 0, 4);
        y.wear(3, 95);
        y.wear(9, 95);
        due("rows do not join at their ends", y.way(0, 5, 1), -5);
    }

    private static void block() {
        CHECK.about("14 way, block");
        wrongWay(2);
        CarpetsLaw x = corridor(0);
        due("the first of those that stop it", x.way(0, 4, 2), 1);
        due("its own and that are none", x.way(0, 1, 2), -5);
        due("never gets there as it is", x.way(0, 24, 2), -5);
        due("is there", x.way(0, 0, 2), -5);
        due("nothing changed", x.told(11), 10);
        due("nobody is away", x.of(0, 3), 0);
        x.one(0, 0, 7);
        x.wear(2, 94);
        due("stopped by another one", x.way(0, 4, 0), -5);
        due("who is as if away", x.way(0, 4, 2), 1);
        x.away(0, true);
        due("one who is away", x.way(0, 4, 2), -5);

        // Worn out to 99, which is bald, a cell can be crossed again from hour 10 on: it delays one, and stops none.
        CarpetsLaw y = new CarpetsLaw();
        Checker.wearAll(y, 99);
        int[] wear = {60, 50, 40, 20, 10};
        for (int cell = 0; cell < 5; cell++) {
            y.wear(cell, wear[cell]);
        }
        y.one(0, 0, 4);
        due("statute", Checker.statute(y, "bald 99;bar 99 c>4"), 0);
        due("to the left end", y.way(0, 0, 0), 4);
        due("by 1 worn out", gets(y, 1, 0, 0), 12);
        due("by 3 worn out", gets(y, 3, 0, 0), 14);
        due("by 2 worn out", gets(y, 2, 0, 0), 14);
        due("the first of the greatest, not the first that is greater", y.way(0, 0, 2), 2);
        due("on the way to 2", y.way(0, 2, 2), 3);

        // This one goes away from its own cell and back over it.
        CarpetsLaw z = new CarpetsLaw();
        z.one(0, 0, 1);
        z.wear(5, 99);
        due("statute", Checker.statute(z, "draw 90 c=0&h=0;draw 50 c>0"), 0);
        due("back over its own", z.way(0, 2, 0), 3);
        due("which is not to be worn out", z.way(0, 2, 2), -5);

        CarpetsLaw left = new CarpetsLaw();
        left.one(0, 0, 2);
        left.wear(1, 20);
        left.wear(0, 30);
        left.wear(5, 40);
        due("by way of 0", left.way(0, 5, 0), 3);
        due("cell 0 may be the one", left.way(0, 5, 2), 0);

        // Fenced in until hour 40: the latest that one can get anywhere, and still there is a later: never.
        CarpetsLaw late = new CarpetsLaw();
        late.one(2, 0, 0);
        late.wear(5, 99);
        late.wear(1, 98);
        late.pass(1);
        late.pass(1);
        due("gets there behind 40", late.way(0, 2, 0), 40);
        due("and never, by", late.way(0, 2, 2), 1);
    }

    private static int gets(CarpetsLaw x, int worn, int person, int cell) {
        int before = x.wear(worn, 99);
        int gets = x.way(person, cell, 0);
        x.wear(worn, before);
        return gets;
    }

    private static void night() {
        CHECK.about("15 night");
        CarpetsLaw x = new CarpetsLaw();
        due("no such one", x.night(0, 0), -1);
        x.one(0, 0, 12);
        x.one(2, 0, 12);
        due("person -1", x.night(-1, 7), -1);
        due("cell 25", x.night(0, 25), -1);
        due("cell -1", x.night(0, -1), -1);
        for (int cell : new int[] {12, 6, 8, 16, 18, 2, 22, 10, 14}) {
            due("not next: " + cell, x.night(0, cell), -2);
        }
        due("sent there anyhow", x.night(0, 7), 0);
        due("right", x.night(0, 13), 1);
        due("below", x.night(0, 17), 1);
        due("left", x.night(0, 11), 1);
        due("socks anyhow", x.night(1, 7), 0);
        due("socks shun it the more", x.night(1, 13), -5);
        x.wear(7, 60);
        due("as much as above and 1", x.night(0, 13), 56);
        x.wear(7, 93);
        due("94", x.night(0, 13), 89);
        x.wear(7, 94);
        due("95 is bald", x.night(0, 13), -5);
        x.wear(13, 95);
        due("is bald", x.night(0, 13), -5);
        x.wear(7, 95);
        x.wear(13, 5);
        due("the other is bald", x.night(0, 13), 0);
        x.away(0, true);
        due("away or not", x.night(0, 17), 1);
        due("nothing changed", x.told(23), 5);

        CarpetsLaw y = new CarpetsLaw();
        y.one(0, 0, 12);
        y.wear(7, 60);
        Checker.statute(y, "draw 99 w=4&c=13;bald 99");
        due("by the wear that draws", y.night(0, 13), 35);
        y.wear(7, 98);
        Checker.statute(y, "bar 98 w<9&c=13;bald 99");
        due("98 is not more", y.night(0, 13), -5);
        y.wear(13, 99);
        Checker.statute(y, "bald 99");
        due("99 is bald", y.night(0, 13), -5);
        y.put(0, 4);
        due("no right of 4", y.night(0, 5), -2);
        y.put(0, 5);
        due("no left of 5", y.night(0, 4), -2);
    }

    private static void beyondTheLastHour() {
        CHECK.about("13 on, beyond hour 9999");
        CarpetsLaw x = new CarpetsLaw();
        x.one(0, 0, 0);
        x.away(0, true);
        for (int i = 0; i < 166; i++) {
            x.pass(60);
        }
        x.pass(39);
        x.away(0, false);
        x.wear(24, 50);
        Checker.wearAll(x, 50);
        due("on(1) is hour 10000", x.on(1, 34), 49);
        due("on(40)", x.on(40, 34), 46);
        due("it goes there", x.on(1, 40), 1);
        due("gets", x.way(0, 1, 0), 1);
        due("mean behind 1", x.mean(1, 0), 1227);
        x.plan(0, 0);
        due("ends", x.ends(0), 25 * 49 + 2);
        x.see(0, 1, 1);
        due("from, of an hour that never passes", x.from(0) & 1, 1);
        due("the hour", x.told(0), 9999);
    }
}
