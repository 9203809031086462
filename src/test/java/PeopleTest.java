/** Promises 1 to 11: people, cells, statutes. */
public final class PeopleTest {
    private static final Checker CHECK = new Checker();

    public static void main(String[] args) {
        newObject();
        one();
        of();
        pullOfKinds();
        pullByStatute();
        put();
        wear();
        away();
        row();
        feed();
        statuteNumbers();
        statuteFaults();
        statuteMeaning();
        told();
        CHECK.end();
    }

    private static void due(String call, long got, long want) {
        CHECK.due(call, got, want);
    }

    private static void newObject() {
        CHECK.about("1 a new object");
        CarpetsLaw x = new CarpetsLaw();
        for (int what = 0; what <= 6; what++) {
            due("count(" + what + ")", x.count(what), 0);
        }
        for (int cell = 0; cell < 25; cell++) {
            due("told(10 + " + cell + ")", x.told(10 + cell), 5);
        }
        due("told(0)", x.told(0), 0);
        due("told(1)", x.told(1), 95);
        due("of(0, 0)", x.of(0, 0), -1);
        due("undo()", x.undo(), -3);
        due("statute()", x.statute(), -10);
        for (int tape = 0; tape < 6; tape++) {
            due("item of tape " + tape, x.item(tape, 0, 1), -11);
        }
        CarpetsLaw y = new CarpetsLaw();
        x.wear(0, 9);
        x.one(0, 0, 0);
        due("told(10) of another object", y.told(10), 5);
        due("count(0) of another object", y.count(0), 0);
    }

    private static void one() {
        CHECK.about("2 one");
        CarpetsLaw x = new CarpetsLaw();
        due("kind -1", x.one(-1, 0, 0), -1);
        due("kind 7", x.one(7, 0, 0), -1);
        due("cell -1", x.one(0, 0, -1), -1);
        due("cell 25", x.one(0, 0, 25), -1);
        due("v -1", x.one(0, -1, 0), -2);
        due("v 10", x.one(0, 10, 0), -2);
        due("kind ahead of v", x.one(7, 10, 0), -1);
        due("cell ahead of v", x.one(0, 10, 25), -1);
        due("none came", x.count(0), 0);
        for (int i = 0; i < 6; i++) {
            due("number", x.one(6 - i, 9 - i, 24 - i), i);
        }
        for (int i = 0; i < 6; i++) {
            due("kind", x.of(i, 0), 6 - i);
            due("v", x.of(i, 1), 9 - i);
            due("cell", x.of(i, 2), 24 - i);
            due("away", x.of(i, 3), 0);
        }
        due("a seventh", x.one(0, 0, 0), -4);
        due("kind ahead of full", x.one(7, 0, 0), -1);
        due("v ahead of full", x.one(0, 10, 0), -2);
        due("count(0)", x.count(0), 6);
        due("coming wears nothing", x.told(3), 125);
    }

    private static void of() {
        CHECK.about("3 of");
        CarpetsLaw x = new CarpetsLaw();
        int[] treads = {2, 3, 1, 6, 3, 2, 6};
        for (int kind = 0; kind < 6; kind++) {
            x.one(kind, kind + 1, 12);
            due("tread of kind " + kind, x.of(kind, 5), treads[kind]);
        }
        due("what -1", x.of(0, -1), -1);
        due("what 6", x.of(0, 6), -1);
        due("person -1", x.of(-1, 0), -1);
        due("person 6", x.of(6, 0), -1);
        CarpetsLaw y = new CarpetsLaw();
        due("no such one", y.of(0, 4), -1);
        y.one(6, 0, 12);
        due("tread of kind 6", y.of(0, 5), 6);

        CarpetsLaw z = new CarpetsLaw();
        z.one(0, 0, 12);
        due("above is first", z.of(0, 4), 7);
        z.wear(13, 6);
        z.wear(17, 6);
        z.wear(11, 6);
        due("right is ahead of below and left", z.of(0, 4), 13);
        z.wear(13, 5);
        due("below is ahead of left", z.of(0, 4), 17);
        z.wear(17, 5);
        due("left, if most worn", z.of(0, 4), 11);
        z.wear(11, 95);
        due("not to a bald one", z.of(0, 4), 7);
        z.wear(11, 94);
        due("94 is not bald", z.of(0, 4), 11);
        z.away(0, true);
        due("the law sends one who is away, too", z.of(0, 4), 11);
        int[][] corners = {{0, 1}, {4, 9}, {20, 15}, {24, 19}, {2, 3}, {10, 5}};
        z.wear(11, 5);
        for (int[] corner : corners) {
            z.put(0, corner[0]);
            due("from " + corner[0], z.of(0, 4), corner[1]);
        }
        z.put(0, 0);
        z.wear(1, 99);
        due("below, if the right is bald", z.of(0, 4), 5);
        z.wear(5, 99);
        due("stays", z.of(0, 4), 0);
        z.wear(0, 99);
        due("stays, itself on a bald one", z.of(0, 4), 0);
        z.put(0, 4);
        z.wear(9, 99);
        z.wear(3, 99);
        due("no cell of another row is to the right", z.of(0, 4), 4);
        z.put(0, 10);
        z.wear(11, 99);
        z.wear(15, 99);
        due("no cell of another row is to the left", z.of(0, 4), 10);
    }

    private static void pullOfKinds() {
        CHECK.about("4 pull by kind");
        CarpetsLaw x = new CarpetsLaw();
        for (int kind = 1; kind < 7; kind++) {
            x.one(kind, 7, 12);
        }
        x.wear(13, 31);
        x.wear(14, 31);
        int[] evenHour13 = {31, -31, 31, 31, -11, 31};
        int[] evenHour14 = {31, -31, 31, 38, -31, 31};
        x.row(5, 0, 4);
        x.row(5, 1, 3);
        for (int person = 0; person < 6; person++) {
            due("pull(" + person + ", 13)", x.pull(person, 13), evenHour13[person] + (person == 5 ? 4 : 0));
            due("pull(" + person + ", 14)", x.pull(person, 14), evenHour14[person] + (person == 5 ? 4 : 0));
        }
        for (int person = 0; person < 6; person++) {
            x.away(person, true);
        }
        x.pass(1);
        due("a kneeler, odd hour", x.pull(2, 13), 15);
        due("a told one, odd hour", x.pull(5, 13), 18);
        due("a train, odd hour", x.pull(0, 13), 31);
        x.pass(1);
        due("a kneeler, even hour", x.pull(2, 13), 31);
        due("a told one, row at 2", x.pull(5, 13), 31);
        x.pass(3);
        due("a told one, row at 5 modulo 4", x.pull(5, 13), 18);
        x.put(4, 14);
        due("a child's right is in its own row", x.pull(4, 15), -5);
        due("a child's left is as socks'", x.pull(4, 13), -31);
        x.put(4, 12);
        due("a child's own", x.pull(4, 12), -5);
        due("person 6", x.pull(6, 0), -10001);
        due("person -1", x.pull(-1, 0), -10001);
        due("cell 25", x.pull(0, 25), -10001);
        due("cell -1", x.pull(0, -1), -10001);
    }

    private static void pullByStatute() {
        CHECK.about("4 pull by statute");
        CarpetsLaw x = new CarpetsLaw();
        x.one(0, 0, 12);
        x.one(2, 0, 12);
        x.one(3, 0, 12);
        due("statute", Checker.statute(x, "bar 10 c=7;bar 5 c<8;draw 40 c=9"), 0);
        due("less than nothing", x.pull(0, 7), -10);
        due("socks", x.pull(1, 7), 10);
        due("one bar", x.pull(0, 6), 0);
        due("none", x.pull(0, 8), 5);
        due("draw", x.pull(0, 9), 45);
        x.away(0, true);
        x.away(1, true);
        x.away(2, true);
        x.pass(1);
        x.wear(7, 0);
        due("half of -15 is -7", x.pull(2, 7), -7);
        due("not cut by others", x.pull(0, 7), -15);
        Checker.statute(x, "draw 99 c=1;draw 99 c=1;draw 99 c=1;draw 99 c=1;draw 99 c=1;draw 99 c=1");
        due("all draw together", x.pull(0, 1), 5 + 6 * 99);
        due("as bar has none", x.pull(1, 1), -5 - 6 * 99);
    }

    private static void put() {
        CHECK.about("5 put");
        CarpetsLaw x = new CarpetsLaw();
        due("no such one", x.put(0, 0), -1);
        x.one(0, 0, 3);
        x.one(0, 0, 3);
        due("cell 25", x.put(0, 25), -1);
        due("cell -1", x.put(0, -1), -1);
        due("person -1", x.put(-1, 0), -1);
        due("person 2", x.put(2, 0), -1);
        due("where it was", x.put(0, 24), 3);
        due("where it was then", x.put(0, 0), 24);
        due("where it is", x.of(0, 2), 0);
        due("the other one", x.of(1, 2), 3);
        due("no wear", x.told(3), 125);
        x.wear(9, 99);
        due("to a bald one", x.put(1, 9), 3);
        due("there it is", x.of(1, 2), 9);
    }

    private static void wear() {
        CHECK.about("6 wear");
        CarpetsLaw x = new CarpetsLaw();
        due("cell -1", x.wear(-1, 0), -1);
        due("cell 25", x.wear(25, 0), -1);
        due("n -1", x.wear(0, -1), -2);
        due("n 100", x.wear(0, 100), -2);
        due("cell ahead of n", x.wear(25, 100), -1);
        due("what it was", x.wear(24, 99), 5);
        due("then", x.wear(24, 0), 99);
        due("then 0", x.wear(24, 1), 0);
        due("told", x.told(34), 1);
        due("the others", x.told(3), 24 * 5 + 1);
    }

    private static void away() {
        CHECK.about("7 away");
        CarpetsLaw x = new CarpetsLaw();
        due("no such one", x.away(0, true), -1);
        due("person -1", x.away(-1, true), -1);
        x.one(0, 0, 12);
        x.one(0, 0, 0);
        due("was not", x.away(0, true), 0);
        due("was", x.away(0, true), 1);
        due("is", x.of(0, 3), 1);
        due("the other is not", x.of(1, 3), 0);
        x.pass(1);
        due("one who is away stays", x.of(0, 2), 12);
        due("and treads nothing", x.told(22), 5);
        due("the other goes", x.of(1, 2), 1);
        due("was, until now", x.away(0, false), 1);
        due("was not", x.away(0, false), 0);
        x.pass(1);
        due("goes again", x.of(0, 2), 7);
    }

    private static void row() {
        CHECK.about("8 row");
        CarpetsLaw x = new CarpetsLaw();
        due("no such one", x.row(0, 0, 0), -1);
        x.one(6, 0, 0);
        x.one(3, 0, 0);
        x.one(6, 0, 0);
        due("part -1", x.row(0, -1, 0), -1);
        due("part 4", x.row(0, 4, 0), -1);
        due("n -1", x.row(0, 0, -1), -2);
        due("n 10", x.row(0, 0, 10), -2);
        due("part ahead of n", x.row(0, 4, 10), -1);
        due("another kind", x.row(1, 0, 0), -3);
        due("part ahead of the kind", x.row(1, 4, 0), -1);
        due("n ahead of the kind", x.row(1, 0, 10), -2);
        for (int part = 0; part < 4; part++) {
            due("what it was", x.row(0, part, 9 - part), 0);
        }
        for (int part = 0; part < 4; part++) {
            due("what it became", x.row(0, part, 0), 9 - part);
            due("the other one's", x.row(2, part, 0), 0);
        }
    }

    private static void feed() {
        CHECK.about("9 feed");
        CarpetsLaw x = new CarpetsLaw();
        due("sign -1", x.feed(-1), -2);
        due("sign 128", x.feed(128), -2);
        due("sign 0", x.feed(0), 1);
        due("sign 127", x.feed(127), 2);
        for (int n = 3; n <= 100; n++) {
            due("how many", x.feed('p'), n);
        }
        due("one more", x.feed('p'), -4);
        due("bad ahead of full", x.feed(128), -2);
        due("count(5)", x.count(5), 100);
        x.statute();
        due("empty then", x.feed('b'), 1);
    }

    private static void statuteNumbers() {
        CHECK.about("10 statute, numbers");
        CarpetsLaw x = new CarpetsLaw();
        for (int n = 0; n < 6; n++) {
            due("number", Checker.statute(x, "bald " + (10 + n)), n);
            due("the newest holds", x.told(1), 10 + n);
            due("the text is empty", x.count(5), 0);
            due("a text with a fault", Checker.statute(x, "bald 7x"), n < 5 ? -16 : -4);
            due("the one that held holds", x.told(1), 10 + n);
        }
        due("the text stays", x.count(5), 7);
        due("full", x.statute(), -4);
        due("count(1)", x.count(1), 6);
    }

    private static void fault(String text, int place) {
        CarpetsLaw x = new CarpetsLaw();
        due("statute() of " + text, Checker.statute(x, text), -10 - place);
        due("none holds", x.told(1), 95);
        due("none is counted", x.count(1), 0);
        due("the text is empty", x.count(5), 0);
    }

    private static void good(String text) {
        due("statute() of " + text, Checker.statute(new CarpetsLaw(), text), 0);
    }

    private static void statuteFaults() {
        CHECK.about("10 statute, faults");
        fault("", 0);
        fault("x", 0);
        fault("b", 1);
        fault("ba", 2);
        fault("bax", 2);
        fault("bal", 3);
        fault("bald", 4);
        fault("bald ", 5);
        fault("bald x", 5);
        fault("bald 5 ", 6);
        fault("bald 555", 7);
        fault("bald 5;", 7);
        fault("bald 5;;", 7);
        fault("bald  5", 5);
        fault(" bald 5", 0);
        fault("bald 5\n", 6);
        fault("Bald 5", 0);
        fault("bald 5&p=1", 6);
        fault("bar", 3);
        fault("bar ", 4);
        fault("bar 1", 5);
        fault("bar 1 ", 6);
        fault("bar 12;", 6);
        fault("bar 1  p=1", 6);
        fault("bar 123 p=1", 6);
        fault("bard 1", 3);
        fault("draw", 4);
        fault("drat", 3);
        fault("drawn", 4);
        fault("draw p=1", 5);
        fault("draw 1p=1", 6);
        fault("draw 1 p", 8);
        fault("draw 1 p=", 9);
        fault("draw 1 p=x", 9);
        fault("draw 1 p=123", 11);
        fault("draw 1 p=1 ", 10);
        fault("draw 1 p==1", 9);
        fault("draw 1 p<=1", 9);
        fault("draw 1 p!1", 8);
        fault("draw 1 x=1", 7);
        fault("draw 1 P=1", 7);
        fault("draw 1 1=p", 7);
        fault("draw 1 =1", 7);
        fault("draw 1 p=1&", 11);
        fault("draw 1 p=1|", 11);
        fault("draw 1 p=1&&p=1", 11);
        fault("draw 1 p=1|;", 11);
        fault("draw 1 &p=1", 7);
        fault("draw 1 ()", 8);
        fault("draw 1 (p=1", 11);
        fault("draw 1 (p=1;", 11);
        fault("draw 1 p=1)", 10);
        fault("draw 1 (p=1))", 12);
        fault("draw 1 !", 8);
        fault("draw 1 (p=1)(p=1)", 12);
        fault("draw 1 p=1!p=1", 10);
        fault("draw 1 (p=1)!p=1", 12);
        fault("draw 1 !!!!!p=1", 11);
        fault("draw 1 (((((p=1", 11);
        fault("draw 1 !(!(!p=1))", 11);
        fault("draw 1 ((((!p=1))))", 11);
        fault("draw 1 !!!!(p=1)", 11);
        fault("bar 1 (((p=1)&(((p=2)))))", 16);
        fault("draw 1 p=1;bald", 15);
        fault("draw 1 p=1;draw 2 p=1;x", 22);
        fault("draw 1 p=1; bald 1", 11);
        fault("\0", 0);
        fault("draw 1 p=1\0", 10);
        String ten = "bald 1;bald 2;bald 3;bald 4;bald 5;bald 6;bald 7;bald 8;bald 9;bald 10";
        fault(ten + ";", ten.length());
        fault(ten + ";bald 11", ten.length());
        good(ten);
        good("bald 0");
        good("bald 99");
        good("bald 05");
        good("draw 0 p=0");
        good("bar 99 h>99");
        good("draw 1 !!!!p=1");
        good("draw 1 ((((p=1))))");
        good("draw 1 !(!(p=1))");
        good("bar 1 (((p=1)&((p=2))))");
        good("bar 1 !p=1&!k=1|!v<1&!(c>1)|w=1|h=1");
        good("draw 1 (((!p=1)&(!p=2))|!!!p=3)|!(p=1)");
        StringBuilder full = new StringBuilder("draw 10 ");
        while (full.length() < 96) {
            full.append("p=1|");
        }
        good(full + "k=10");
        fault(full + "k=1|", 100);
        fault(full + "k=1)", 99);
    }

    /** What a draw of 20 adds for one of kind 4 with v 7, number 1, on cell 13 with wear 39, at hour 102. */
    private static void meaning(String test, int adds) {
        CarpetsLaw x = new CarpetsLaw();
        x.one(0, 0, 0);
        x.one(4, 7, 13);
        x.away(0, true);
        x.away(1, true);
        x.pass(60);
        x.pass(42);
        x.wear(13, 39);
        due("statute", Checker.statute(x, "draw 20 " + test), 0);
        due("pull by draw 20 " + test, x.pull(1, 13), 39 + adds);
    }

    private static void statuteMeaning() {
        CHECK.about("10 statute, meaning");
        String[] hold = {
            "p=1", "p<2", "p>0", "k=4", "k<5", "k>3", "v=7", "v<8", "v>6", "c=13", "c<14", "c>12", "w=3", "w<4",
            "w>2", "h=2", "h<3", "h>1", "p=01", "w=03", "!p=0", "!!p=1", "p=1|p=0&p=0", "p=0&p=1|p=1", "p=1|p=1&p=0",
            "!p=1|p=1", "!p=0&p=1", "!(p=0&p=1)", "p=1&p=1&p=1", "p=0|p=0|p=1", "p=0|p=1&p=1|p=0", "p=0&p=0|p=1&p=1",
            "!(p=0|!(p=1))", "c=13&w=3&k=4&v=7&h=2"
        };
        String[] fail = {
            "p=0", "p<1", "p>1", "k=3", "k<4", "k>4", "v=6", "v<7", "v>7", "c=14", "c<13", "c>13", "w=39", "w<3",
            "w>3", "h=3", "h<2", "h>2", "p=10", "!p=1", "!!p=0", "p=0&(p=1|p=1)", "(p=1|p=1)&p=0", "!(p=1|p=1)",
            "p=1&p=1&p=0", "p=0|p=0|p=0", "p=1&p=0|p=1&p=0", "!(p=0|!(p=0))", "!(p=1)&p=1", "!p=1&p=1",
            "c=13&w=3&k=4&v=7&h=3"
        };
        for (String test : hold) {
            meaning(test, 20);
        }
        for (String test : fail) {
            meaning(test, 0);
        }
        CarpetsLaw x = new CarpetsLaw();
        x.one(0, 0, 12);
        due("the last bald", Checker.statute(x, "bald 40;draw 9 c=13;bald 6;bar 3 c=7"), 0);
        due("told(1)", x.told(1), 6);
        due("sent", x.of(0, 4), 13);
        Checker.statute(x, "draw 9 c=17");
        due("95 without bald", x.told(1), 95);
        due("the older one's clauses are gone", x.of(0, 4), 17);
    }

    private static void told() {
        CHECK.about("11 told");
        CarpetsLaw x = new CarpetsLaw();
        for (int what : new int[] {-1, 5, 9, 35, Integer.MIN_VALUE, Integer.MAX_VALUE}) {
            due("told(" + what + ")", x.told(what), -1);
        }
        x.wear(24, 95);
        x.wear(0, 94);
        x.pass(7);
        due("hour", x.told(0), 7);
        due("bald's number", x.told(1), 95);
        due("how many are bald", x.told(2), 1);
        due("all", x.told(3), 23 * 5 + 95 + 94);
        due("beating", x.told(4), 1);
        due("wear of 0", x.told(10), 94);
        due("wear of 24", x.told(34), 95);
        x.wear(24, 99);
        due("beating 99", x.told(4), 5);
        x.wear(24, 5);
        due("beating none", x.told(4), 0);
        Checker.statute(x, "bald 1");
        due("beating 94 below 1", x.told(4), 94);
        due("all are bald", x.told(2), 25);
        x.wear(3, 99);
        due("beating 99 below 1", x.told(4), 99);
        Checker.wearAll(x, 0);
        due("nothing to beat", x.told(4), 0);
        Checker.statute(x, "bald 0");
        Checker.wearAll(x, 3);
        due("beating is of no help", x.told(4), -5);
        Checker.wearAll(x, 0);
        due("0 is bald", x.told(2), 25);
        due("nor then", x.told(4), -5);
        due("all", x.told(3), 0);
    }
}
