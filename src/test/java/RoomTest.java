import java.lang.management.ManagementFactory;

/** All calls of a run live in one room: what a new object takes is bounded, and a call takes nothing more. */
public final class RoomTest {
    private static final int OBJECTS = 200, ROUNDS = 40;

    public static void main(String[] args) {
        Checker check = new Checker();
        check.about("room");
        com.sun.management.ThreadMXBean room =
            (com.sun.management.ThreadMXBean) ManagementFactory.getThreadMXBean();
        round(filled(), 3);
        long before = room.getCurrentThreadAllocatedBytes();
        for (int i = 0; i < OBJECTS; i++) {
            new CarpetsLaw();
        }
        long each = (room.getCurrentThreadAllocatedBytes() - before) / OBJECTS;
        check.holds("a new object takes " + each + " bytes, 16,000 at most", each <= 16_000);

        CarpetsLaw x = filled();
        before = room.getCurrentThreadAllocatedBytes();
        for (int i = 0; i < ROUNDS; i++) {
            round(x, i);
        }
        long more = room.getCurrentThreadAllocatedBytes() - before;
        check.holds("the calls take " + more + " bytes, 4,000 at most", more <= 4_000);
        check.end();
    }

    private static CarpetsLaw filled() {
        CarpetsLaw x = new CarpetsLaw();
        for (int i = 0; i < 6; i++) {
            x.one(i, i, 4 * i);
        }
        Checker.statute(x, "draw 9 (c<7|w>3)&!(p=2|k>4);bar 7 h=3|v<4;bald 90");
        return x;
    }

    /** Calls of all sorts; a text with a fault, too, but no good one: there are six of those at most. */
    private static void round(CarpetsLaw x, int i) {
        int person = i % 6;
        x.image();
        x.of(person, 4);
        x.wear(i % 25, i);
        x.pass(3);
        x.on(40, 40 + person);
        x.way(person, i % 25, 0);
        x.way(person, i % 25, 1);
        x.way(person, i % 25, 2);
        x.night(person, x.of(person, 4));
        x.see(person, 8, i % 25);
        x.from(person);
        x.can(person, 0);
        x.odds(person, i % 25, 0);
        x.mean(40, 0);
        x.plan(0, 0);
        x.ends(0);
        x.book(person, 3);
        x.looked();
        x.tape(person, i % 5, 60);
        x.item(person, 3, 7);
        x.shift(person, 0, person, 3, 20);
        x.judge(person, 0);
        x.act(person, 2, i);
        Checker.statute(x, "draw 1 (((((");
        x.undo();
    }
}
