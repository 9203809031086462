/** Promises 32 to 35: tapes. */
public final class TapesTest {
    private static final Checker CHECK = new Checker();
    private static final long NO = Long.MIN_VALUE;

    public static void main(String[] args) {
        tape();
        item();
        read();
        shift();
        shiftWrong();
        CHECK.end();
    }

    private static void due(String call, long got, long want) {
        CHECK.due(call, got, want);
    }

    private static void tape() {
        CHECK.about("32 tape");
        CarpetsLaw x = new CarpetsLaw();
        due("tape -1", x.tape(-1, 0, 0), -1);
        due("tape 6", x.tape(6, 0, 0), -1);
        due("tape ahead of sort", x.tape(6, 5, 0), -1);
        due("sort -2", x.tape(0, -2, 0), -2);
        due("sort 5", x.tape(0, 5, 0), -2);
        due("sort ahead of size", x.tape(0, 5, -1), -2);
        due("n 61", x.tape(0, 0, 61), -2);
        due("n -1", x.tape(0, 0, -1), -14);
        due("n far below", x.tape(0, 4, Integer.MIN_VALUE), -14);
        due("it holds nothing", x.item(0, 0, 0), -11);
        for (int sort = 0; sort < 5; sort++) {
            due("n 60", x.tape(5, sort, 60), 1);
            due("all 0", x.read(5, 59), 0);
            x.item(5, 59, 1);
            due("1", x.read(5, 59), 1);
        }
        due("a wrong call leaves it", x.tape(5, 0, 61), -2);
        due("1", x.read(5, 59), 1);
        due("a shorter one", x.tape(5, 4, 10), 1);
        due("no such place", x.read(5, 10), NO);
        due("a longer one", x.tape(5, 4, 60), 1);
        due("all 0", x.read(5, 59), 0);
        due("none", x.tape(5, 0, 0), 1);
        due("no such place", x.item(5, 0, 1), -13);
        due("holds nothing", x.tape(5, -1, 99), 1);
        due("nothing", x.item(5, 0, 1), -11);
        due("holds nothing again", x.tape(5, -1, -99), 1);
    }

    private static void item() {
        CHECK.about("33 item");
        CarpetsLaw x = new CarpetsLaw();
        due("tape -1", x.item(-1, 0, 0), -1);
        due("tape 6", x.item(6, 0, 0), -1);
        due("nothing", x.item(0, 0, 0), -11);
        due("nothing ahead of the place", x.item(0, -1, 0), -11);
        long[] items = {0x1234_5678_9ABC_DEF0L, -1, 1, 0, 255, 65535, 1L << 32, Long.MIN_VALUE, 128, 32768, 1L << 31};
        for (int sort = 0; sort < 5; sort++) {
            x.tape(sort, sort, 2);
            due("place -1", x.item(sort, -1, 0), -13);
            due("place 2", x.item(sort, 2, 0), -13);
            for (long v : items) {
                due("item", x.item(sort, 1, v), 1);
                due("sort " + sort + " of " + v, x.read(sort, 1), asKept(sort, v));
                due("the other item", x.read(sort, 0), 0);
            }
        }
    }

    private static long asKept(int sort, long v) {
        long[] row = {(byte) v, (short) v, (int) v, v, v != 0 ? 1 : 0};
        return row[sort];
    }

    private static void read() {
        CHECK.about("34 read");
        CarpetsLaw x = new CarpetsLaw();
        due("tape -1", x.read(-1, 0), NO);
        due("tape 6", x.read(6, 0), NO);
        due("nothing", x.read(0, 0), NO);
        x.tape(0, 3, 3);
        due("place -1", x.read(0, -1), NO);
        due("place 3", x.read(0, 3), NO);
        due("far place", x.read(0, Integer.MAX_VALUE), NO);
        x.item(0, 2, 9);
        due("place 2", x.read(0, 2), 9);
        due("place 0", x.read(0, 0), 0);
        x.tape(0, -1, 0);
        due("nothing", x.read(0, 2), NO);
    }

    private static CarpetsLaw counted(int sort, int n) {
        CarpetsLaw x = new CarpetsLaw();
        x.tape(0, sort, n);
        for (int i = 0; i < n; i++) {
            x.item(0, i, i + 1);
        }
        return x;
    }

    private static void row(CarpetsLaw x, int tape, int... items) {
        for (int i = 0; i < items.length; i++) {
            due("item " + i + " of tape " + tape, x.read(tape, i), items[i]);
        }
    }

    private static void shift() {
        CHECK.about("35 shift");
        CarpetsLaw x = counted(1, 6);
        due("up", x.shift(0, 0, 0, 2, 4), 4);
        row(x, 0, 1, 2, 1, 2, 3, 4);
        x = counted(3, 6);
        due("down", x.shift(0, 2, 0, 0, 4), 4);
        row(x, 0, 3, 4, 5, 6, 5, 6);
        x.tape(5, 3, 3);
        due("to another one", x.shift(0, 1, 5, 1, 2), 2);
        row(x, 5, 0, 4, 5);
        row(x, 0, 3, 4, 5, 6, 5, 6);
        due("none from the end", x.shift(0, 6, 5, 3, 0), 0);
        row(x, 5, 0, 4, 5);
        due("all in place", x.shift(0, 0, 0, 0, 6), 6);
        row(x, 0, 3, 4, 5, 6, 5, 6);
        x = counted(4, 3);
        x.item(0, 1, 0);
        x.tape(1, 4, 3);
        due("booleans", x.shift(0, 0, 1, 0, 3), 3);
        row(x, 1, 1, 0, 1);
    }

    private static void shiftWrong() {
        CHECK.about("35 shift, wrong");
        CarpetsLaw x = counted(2, 4);
        x.tape(1, 2, 3);
        x.tape(2, 1, 4);
        int far = Integer.MAX_VALUE;
        due("tape -1", x.shift(-1, 0, 0, 0, 0), -1);
        due("other 6", x.shift(0, 0, 6, 0, 0), -1);
        due("no such other ahead of nothing", x.shift(3, 0, 6, 0, 0), -1);
        due("nothing", x.shift(3, 0, 0, 0, 0), -11);
        due("nothing there", x.shift(0, 0, 3, 0, 0), -11);
        due("nothing ahead of the place", x.shift(0, -1, 3, 0, 0), -11);
        due("unlike sorts", x.shift(0, 0, 2, 0, 1), -12);
        due("unlike sorts ahead of the place", x.shift(0, 0, 2, 0, -1), -12);
        due("n -1", x.shift(0, 0, 1, 0, -1), -13);
        due("i -1", x.shift(0, -1, 1, 0, 1), -13);
        due("j -1", x.shift(0, 0, 1, -1, 1), -13);
        due("i -1, of none", x.shift(0, -1, 1, 0, 0), -13);
        due("beyond this one's end", x.shift(0, 2, 1, 0, 3), -13);
        due("beyond the other's end", x.shift(0, 0, 1, 0, 4), -13);
        due("i beyond, of none", x.shift(0, 5, 1, 0, 0), -13);
        due("j beyond, of none", x.shift(0, 0, 1, 4, 0), -13);
        due("far n", x.shift(0, 1, 1, 1, far), -13);
        due("far i", x.shift(0, far, 1, 0, 1), -13);
        due("far j", x.shift(0, 0, 1, far, 1), -13);
        due("far below", x.shift(0, Integer.MIN_VALUE, 1, 0, Integer.MIN_VALUE), -13);
        row(x, 0, 1, 2, 3, 4);
        row(x, 1, 0, 0, 0);
        row(x, 2, 0, 0, 0, 0);
    }
}
