import java.util.ArrayList;
import java.util.List;

/**
 * What is refused changes nothing, and what is asked changes nothing: each such call is made on a hall told anew,
 * and then everything that can be seen of it is as it is without the call.
 */
public final class UnchangedTest {
    private static final Checker CHECK = new Checker();

    public static void main(String[] args) {
        CHECK.says("What is answered so changes nothing; what is asked changes nothing.");
        String[][] halls = {{}, someHall(), fullHall()};
        for (String[] hall : halls) {
            List<Long> look = lookAt(Script.run(CHECK, hall));
            for (String call : refused(hall == halls[2])) {
                Script x = Script.run(CHECK, hall);
                long answer = x.ask(call);
                CHECK.holds(call + " is refused, " + answer, answer < 0);
                same(call, lookAt(x), look);
            }
            for (String call : asked()) {
                same(call, lookAt(Script.run(CHECK, hall).then(call)), look);
            }
        }
        CHECK.end();
    }

    private static void same(String call, List<Long> look, List<Long> want) {
        for (int i = 0; i < want.size(); i++) {
            CHECK.due("look " + i + " behind " + call, look.get(i), want.get(i));
        }
    }

    /** Some of everything, an image of another time among it. */
    private static String[] someHall() {
        return new String[] {
            "one 6 3 12", "one 2 4 0", "row 0 0 7", "row 0 3 9", "wear 7 90", "wear 3 0", "law bald 80;draw 9 c=13 = 0",
            "see 0 1 13", "plan 1 4", "book 1 0", "image = 2", "one 4 5 24", "row 0 1 5", "away 1 true", "wear 8 99",
            "pass 13", "see 1 0 0", "plan 0 0", "plan 2 1", "book 0 12", "law bald 70;bar 7 v>3 = 1", "tape 0 0 4",
            "item 0 0 5", "item 0 1 4", "tape 1 3 2", "item 1 1 -7", "tape 2 4 3", "item 2 2 1", "tape 3 1 0", "act 0 2 5",
            "feed 98", "feed 97", "feed 108", "feed 100", "feed 32", "feed 57"
        };
    }

    /** As many of everything as there may be, at the last hour but one. */
    private static String[] fullHall() {
        List<String> steps = new ArrayList<>();
        for (int person = 0; person < 6; person++) {
            steps.add("one " + (6 - person) + " " + (9 - person) + " " + (24 - 4 * person));
            steps.add("away " + person + " true");
            steps.add("law bald 9" + person);
        }
        steps.add("image");
        for (int hours = 0; hours < 167; hours++) {
            steps.add(hours < 166 ? "pass 60" : "pass 38");
        }
        for (int i = 0; i < 5; i++) {
            steps.add("see " + i + " " + i + " " + (24 - 4 * i));
        }
        for (int i = 0; i < 10; i++) {
            steps.add("plan 1 " + i);
        }
        for (int i = 0; i < 8; i++) {
            steps.add("book " + i % 6 + " " + (24 - 4 * (i % 6)));
        }
        for (int i = 0; i < 6; i++) {
            steps.add("wear " + i + " " + (99 - i));
        }
        steps.add("tape 0 0 60");
        steps.add("item 0 1 -1");
        steps.add("tape 5 4 60");
        steps.add("act 5 1 7");
        return steps.toArray(new String[0]);
    }

    private static List<String> refused(boolean full) {
        List<String> calls = new ArrayList<>(List.of(
            "one -1 0 0", "one 7 0 0", "one 0 0 -1", "one 0 0 25", "one 0 -1 0", "one 0 10 0", "put 6 0", "put 0 25",
            "put 0 -1", "put -1 3", "wear -1 7", "wear 25 7", "wear 3 -1", "wear 3 100", "away 6 true", "away -1 true",
            "row 6 0 1", "row 0 4 1", "row 0 -1 1", "row 0 0 10", "row 0 0 -1", "row 1 0 1", "feed -1", "feed 128",
            "pass -1", "pass 61", "see 6 0 0", "see -2 0 0", "see 0 9 0", "see 0 -1 0", "see 0 0 25", "plan -2 0",
            "plan 4 0", "plan 1 25", "plan 1 -1", "plan 2 6", "plan 3 -1", "book 6 0", "book -2 0", "book 0 25",
            "book 0 -1", "tape -1 0 3", "tape 6 0 3", "tape 0 -2 3", "tape 0 5 3", "tape 0 0 61", "tape 0 0 -1", "item 6 0 1",
            "item 4 0 1", "item 0 60 1", "item 0 -1 1", "shift 0 0 6 0 1", "shift 0 0 4 0 1", "shift 0 0 2 0 1",
            "shift 0 0 0 1 60", "shift 0 -1 0 0 1", "shift 0 0 0 0 -1"));
        if (full) {
            calls.addAll(List.of("one 0 0 0", "see 0 0 0", "plan 0 0", "plan 1 0", "plan 2 0", "book 0 0", "statute", "pass 2",
                "pass 60"));
        }
        return calls;
    }

    private static List<String> asked() {
        List<String> calls = new ArrayList<>(List.of(
            "of 0 4", "of 6 0", "of 0 6", "pull 0 13", "pull 0 25", "told 4", "told 9", "on 40 40", "on 40 0", "on 41 0",
            "on 0 9", "on 40 10", "way 0 7 0", "way 0 7 1", "way 0 7 2", "way 0 24 2", "way 1 24 2", "way 0 7 3", "way 6 0 0",
            "night 0 7", "night 0 13", "night 0 0", "night 6 0", "from 0", "from 1", "from 6", "can 0 0", "can 1 1", "can 0 2",
            "odds 0 13 0", "odds 0 13 1", "odds 0 25 0", "mean 40 0", "mean 40 1", "mean 41 0", "ends 0", "ends 1", "ends 2",
            "looked", "judge 0 0", "judge 2 0", "judge 6 0", "judge 4 0", "trace 0", "trace 20", "taken 0 0", "taken 0 7",
            "taken 6 0", "taken 1 6", "read 0 0", "read 0 60", "read 6 0", "pass 0"));
        for (int what = -1; what <= 7; what++) {
            calls.add("count " + what);
        }
        return calls;
    }

    /** All that can be seen of a hall; what must be changed to be seen (the text, the rows, the image) comes last. */
    private static List<Long> lookAt(Script x) {
        List<Long> look = new ArrayList<>();
        hall(x, look);
        for (int i = 0; i < 13; i++) {
            look.add(x.ask("trace " + i));
        }
        for (int tape = 0; tape < 6; tape++) {
            for (int i = 0; i < 5; i++) {
                look.add(x.ask("read " + tape + " " + i));
            }
            look.add(x.ask("read " + tape + " 59"));
            look.add(x.ask("item " + tape + " 0 987654321012"));
            look.add(x.ask("read " + tape + " 0"));
        }
        for (int part = 0; part < 4; part++) {
            look.add(x.ask("row 0 " + part + " 0"));
        }
        look.add(x.ask("count 5"));
        look.add(x.ask("statute"));
        look.add(x.ask("told 1"));
        look.add(x.ask("pass 1"));
        look.add(x.ask("undo"));
        look.add(x.ask("told 1"));
        hall(x, look);
        return look;
    }

    private static void hall(Script x, List<Long> look) {
        for (int what = 0; what < 35; what = what == 4 ? 10 : what + 1) {
            look.add(x.ask("told " + what));
        }
        for (int what = 0; what < 7; what++) {
            look.add(x.ask("count " + what));
        }
        for (int person = 0; person < 6; person++) {
            look.add(x.ask("of " + person + " 0"));
            look.add(x.ask("of " + person + " 1"));
            look.add(x.ask("of " + person + " 2"));
            look.add(x.ask("of " + person + " 3"));
        }
        look.add(x.ask("from 0"));
        look.add(x.ask("ends 0"));
        look.add(x.ask("looked"));
    }
}
