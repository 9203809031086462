/** Promises 25 to 31: judging, the image, acts. */
public final class ImageTest {
    private static final Checker CHECK = new Checker();

    public static void main(String[] args) {
        judge();
        image();
        imageOfStatutes();
        actsOfSix();
        actsOfTold();
        actWrong();
        taken();
        count();
        CHECK.end();
    }

    private static void due(String call, long got, long want) {
        CHECK.due(call, got, want);
    }

    private static void judge() {
        CHECK.about("25 judge");
        CarpetsLaw x = new CarpetsLaw();
        due("tape -1", x.judge(-1, 0), -1);
        due("tape 6", x.judge(6, 0), -1);
        due("holds nothing", x.judge(5, 0), 100);
        due("holds nothing, place -1", x.judge(5, -1), 100);
        for (int sort = 1; sort < 5; sort++) {
            x.tape(1, sort, 25);
            due("sort " + sort, x.judge(1, 0), -12);
        }
        x.tape(0, 0, 30);
        due("the first is otherwise", x.judge(0, 0), 0);
        for (int i = 2; i < 30; i++) {
            x.item(0, i, 5);
        }
        due("from 2 on", x.judge(0, 2), -5);
        due("from 5 on", x.judge(0, 5), -5);
        due("from 6 on it ends", x.judge(0, 6), 124);
        due("from 29 on", x.judge(0, 29), 101);
        due("from 30 on", x.judge(0, 30), 100);
        due("from 31 on", x.judge(0, 31), 100);
        due("from afar", x.judge(0, Integer.MAX_VALUE), 100);
        due("from -1 on", x.judge(0, -1), 100);
        due("from farthest below", x.judge(0, Integer.MIN_VALUE), 100);
        x.wear(24, 6);
        due("the last is otherwise", x.judge(0, 2), 24);
        due("it ends ahead of that", x.judge(0, 6), 124);
        x.wear(3, 0);
        due("the first of two", x.judge(0, 2), 3);
        x.item(0, 5, 256);
        due("the lowest bits", x.judge(0, 2), 24);
        x.wear(0, 99);
        x.item(0, 2, 99 - 256);
        due("of one below 0, too", x.judge(0, 2), 24);
        x.tape(0, 0, 0);
        due("a row of none", x.judge(0, 0), 100);
        due("nothing changed", x.told(10), 99);
    }

    /** A hall in which something of every sort stands. */
    private static CarpetsLaw filled() {
        CarpetsLaw x = new CarpetsLaw();
        x.one(0, 3, 12);
        x.one(6, 4, 0);
        x.row(1, 2, 7);
        x.away(1, true);
        x.wear(7, 20);
        x.pass(2);
        x.see(0, 0, 7);
        x.plan(1, 3);
        x.book(0, 2);
        Checker.statute(x, "bald 50;draw 1 c=3");
        return x;
    }

    private static void looksFilled(CarpetsLaw x, int statutes) {
        due("people", x.count(0), 2);
        due("kind", x.of(1, 0), 6);
        due("v", x.of(0, 1), 3);
        due("cell", x.of(0, 2), 2);
        due("away", x.of(1, 3), 1);
        due("not away", x.of(0, 3), 0);
        due("hour", x.told(0), 2);
        due("all", x.told(3), 125 + 15 + 4);
        due("wear", x.told(17), 22);
        due("row", x.pull(1, 24), 12);
        due("seen", x.count(2), 1);
        due("from", x.from(0), 1 << 7);
        due("plan", x.count(3), 1);
        due("ends", x.ends(0), 144 + 10);
        due("book", x.count(4), 1);
        due("looked", x.looked(), -5);
        due("bald", x.told(1), 50);
        due("pull", x.pull(0, 3), 6);
        due("statutes", x.count(1), statutes);
    }

    private static void image() {
        CHECK.about("26 image, 27 undo");
        CarpetsLaw x = filled();
        due("none is there", x.undo(), -3);
        due("image", x.image(), 2);
        looksFilled(x, 1);
        x.one(5, 1, 1);
        x.one(6, 1, 1);
        x.row(3, 0, 9);
        x.away(3, true);
        x.put(0, 24);
        x.away(0, true);
        x.away(1, false);
        x.row(1, 2, 1);
        x.pass(7);
        x.wear(7, 1);
        x.see(0, 0, 9);
        x.see(1, 0, 9);
        x.plan(-1, 0);
        x.book(1, 9);
        Checker.statute(x, "bald 9");
        x.tape(0, 0, 3);
        x.item(0, 0, 7);
        x.feed('b');
        x.act(0, 0, 5);
        due("undo", x.undo(), 2);
        looksFilled(x, 2);
        due("tapes are none of it", x.read(0, 0), 7);
        due("nor the text", x.count(5), 1);
        due("nor the trace", x.trace(0), 10);
        due("one who comes now", x.one(6, 0, 3), 2);
        due("is another", x.of(2, 0), 6);
        due("and one more", x.one(6, 0, 3), 3);
        due("who is not away", x.of(3, 3), 0);
        due("whose row is 0", x.row(3, 0, 0), 0);
        due("undo once more", x.undo(), 2);
        looksFilled(x, 2);
        x.pass(1);
        x.one(0, 0, 0);
        due("another image", x.image(), 3);
        x.pass(5);
        due("undo", x.undo(), 3);
        due("hour 3", x.told(0), 3);
        CarpetsLaw empty = new CarpetsLaw();
        due("of nobody", empty.image(), 0);
        empty.one(0, 0, 0);
        empty.pass(10);
        due("nobody", empty.undo(), 0);
        due("no such one", empty.of(0, 0), -1);
        due("hour", empty.told(0), 0);
    }

    private static void imageOfStatutes() {
        CHECK.about("27 undo, which statute holds");
        CarpetsLaw x = new CarpetsLaw();
        x.image();
        Checker.statute(x, "bald 30");
        x.undo();
        due("none holds", x.told(1), 95);
        due("there is one", x.count(1), 1);
        due("the next", Checker.statute(x, "bald 31"), 1);
        x.image();
        for (int n = 2; n < 6; n++) {
            due("the next", Checker.statute(x, "bald 4" + n), n);
        }
        x.undo();
        due("the second holds", x.told(1), 31);
        due("six there are", Checker.statute(x, "bald 50"), -4);
        due("it holds still", x.told(1), 31);
    }

    private static void act(CarpetsLaw x, int person, int act, int with, int answer, int... bodies) {
        String call = "act(" + person + ", " + act + ", " + with + ")";
        due(call, x.act(person, act, with), answer);
        due("count(6) of " + call, x.count(6), bodies.length);
        for (int i = 0; i < bodies.length; i++) {
            due("trace(" + i + ") of " + call, x.trace(i), bodies[i]);
        }
        due("trace beyond " + call, x.trace(bodies.length), -1);
        due("trace(-1) of " + call, x.trace(-1), -1);
    }

    private static void actsOfSix() {
        CHECK.about("28 act, 29 trace");
        CarpetsLaw x = new CarpetsLaw();
        due("no act yet", x.trace(0), -1);
        for (int kind = 0; kind < 6; kind++) {
            x.one(kind, kind + 1, 0);
        }
        act(x, 0, 0, 10, 10, 10);
        act(x, 0, 1, 10, 9, 11, 10);
        act(x, 0, 2, 10, 18, 12, 11, 10);
        act(x, 1, 0, 10, 11, 10);
        act(x, 1, 1, 10, 15, 20, 11, 10);
        act(x, 1, 2, 10, 30, 12, 20, 11, 10);
        act(x, 2, 0, 10, 32, 30, 10);
        act(x, 2, 1, 10, 29, 11, 30, 10);
        act(x, 2, 2, 10, 58, 12, 11, 30, 10);
        act(x, 3, 0, 10, 13, 10);
        act(x, 3, 1, 10, 9, 11, 10);
        act(x, 3, 2, 10, 18, 40, 12, 11, 10, 11, 10);
        act(x, 4, 0, 10, -14, 50, 10);
        act(x, 4, 1, 10, -22, 51, 20, 11, 50, 10);
        act(x, 4, 2, 10, -44, 12, 51, 20, 11, 50, 10);
        act(x, 5, 0, 10, 35, 30, 10);
        act(x, 5, 1, 10, 29, 11, 30, 10);
        act(x, 5, 2, 10, 28, 60, 12, 11, 30, 10);
        act(x, 1, 0, Integer.MAX_VALUE, Integer.MIN_VALUE, 10);
        act(x, 2, 0, Integer.MAX_VALUE, Integer.MAX_VALUE, 30, 10);
        act(x, 0, 2, Integer.MIN_VALUE, -2, 12, 11, 10);
        due("nothing changed", x.told(3), 125);
    }

    private static void actsOfTold() {
        CHECK.about("28 act of a told one");
        CarpetsLaw x = new CarpetsLaw();
        x.one(6, 7, 0);
        act(x, 0, 0, 10, 13, 71, 10);
        act(x, 0, 1, 10, 8, 70, 11, 71, 10, 10);
        act(x, 0, 2, 10, 17, 40, 12, 70, 11, 71, 10, 10, 70, 11, 71, 10, 10);
    }

    private static void actWrong() {
        CHECK.about("28 act, no such one or act");
        int[][] wrong = {{-1, 0}, {1, 0}, {0, -1}, {0, 3}, {Integer.MAX_VALUE, 0}, {0, Integer.MIN_VALUE}};
        for (int[] call : wrong) {
            CarpetsLaw x = new CarpetsLaw();
            x.one(0, 5, 0);
            x.act(0, 1, 10);
            due("a trace", x.trace(0), 11);
            due("none", x.act(call[0], call[1], 10), 0);
            due("no trace then", x.trace(0), -1);
            due("count(6)", x.count(6), 0);
        }
    }

    private static void taken() {
        CHECK.about("30 taken");
        CarpetsLaw x = new CarpetsLaw();
        due("no such one", x.taken(0, 0), -11);
        due("k ahead of that", x.taken(0, 7), -2);
        String[] above = {"0", "10", "20", "30", "410", "520", "630"};
        for (int kind = 1; kind < 7; kind++) {
            x.one(kind, 0, 0);
            for (int k = 0; k < 7; k++) {
                int want = above[kind].indexOf('0' + k) >= 0 ? kind : -12;
                due("kind " + kind + " taken for " + k, x.taken(kind - 1, k), want);
            }
        }
        CarpetsLaw y = new CarpetsLaw();
        y.one(0, 0, 0);
        due("a walker", y.taken(0, 0), 0);
        for (int k = 1; k < 7; k++) {
            due("a walker taken for " + k, y.taken(0, k), -12);
        }
        due("k -1", x.taken(0, -1), -2);
        due("k 7", x.taken(0, 7), -2);
        due("person -1", x.taken(-1, 0), -11);
        due("person 6", x.taken(6, 0), -11);
    }

    private static void count() {
        CHECK.about("31 count");
        CarpetsLaw x = new CarpetsLaw();
        due("what -1", x.count(-1), -2);
        due("what 7", x.count(7), -2);
        x.one(0, 0, 0);
        x.one(0, 0, 0);
        x.one(0, 0, 0);
        Checker.statute(x, "bald 9");
        Checker.statute(x, "bald x");
        Checker.statute(x, "bald 8");
        for (int i = 0; i < 4; i++) {
            x.see(0, 0, 0);
        }
        for (int i = 0; i < 5; i++) {
            x.plan(0, 0);
        }
        for (int i = 0; i < 6; i++) {
            x.book(0, 0);
        }
        Checker.feed(x, "bald 95");
        x.act(0, 2, 0);
        due("people", x.count(0), 3);
        due("statutes", x.count(1), 2);
        due("seen", x.count(2), 4);
        due("plan", x.count(3), 5);
        due("book", x.count(4), 6);
        due("text", x.count(5), 7);
        due("bodies", x.count(6), 3);
    }
}
