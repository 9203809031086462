/**
 * Every call with every mixture of numbers at its edges, on an empty hall, one with some of everything and one that is
 * full: each answer is held against PlainLaw's, so that of several refusals that would fit the first named is answered.
 */
public final class EdgeGridTest {
    private static final Checker CHECK = new Checker();
    private static final String FAR = "MIN MAX ";
    private static final String PERSON = FAR + "-2 -1 0 2 5 6";
    private static final String CELL = FAR + "-1 0 7 24 25";
    private static final String DIGIT = FAR + "-1 0 9 10";
    private static final String TAPE = "-1 0 1 2 3 4 6";
    private static final String PLACE = FAR + "-1 0 1 3 4 60";
    private static final String[][] CALLS = {
        {"one", FAR + "-1 0 6 7", DIGIT, CELL}, {"of", PERSON, FAR + "-1 0 1 2 3 4 5 6"}, {"pull", PERSON, CELL},
        {"put", PERSON, CELL}, {"wear", CELL, FAR + "-1 0 99 100"}, {"away", PERSON, "true false"},
        {"row", PERSON, FAR + "-1 0 3 4", DIGIT}, {"feed", FAR + "-1 0 127 128"}, {"statute"},
        {"told", FAR + "-1 0 1 2 3 4 5 9 10 34 35"}, {"pass", FAR + "-1 0 1 2 59 60 61"},
        {"on", FAR + "-1 0 40 41", FAR + "-1 0 1 9 10 34 35 39 40 42 45 46"}, {"way", PERSON, CELL, FAR + "-1 0 1 2 3"},
        {"night", PERSON, FAR + "-1 0 1 3 4 5 7 13 17 24 25"}, {"see", PERSON, FAR + "-1 0 8 9", CELL}, {"from", PERSON},
        {"can", PERSON, FAR + "-1 0 1 2"}, {"odds", PERSON, CELL, FAR + "-1 0 1 2"}, {"mean", FAR + "-1 0 40 41", "-1 0 1 2"},
        {"plan", FAR + "-2 -1 0 1 2 3 4", FAR + "-1 0 2 5 6 24 25"}, {"ends", FAR + "-1 0 1 2"}, {"book", PERSON, CELL},
        {"looked"}, {"judge", FAR + TAPE, PLACE}, {"image"}, {"undo"}, {"act", PERSON, FAR + "-1 0 1 2 3", FAR + "-1 0 1"},
        {"trace", FAR + "-1 0 1 11 12 19 20"}, {"taken", PERSON, FAR + "-1 0 1 2 3 4 5 6 7"}, {"count", FAR + "-1 0 1 2 3 4 5 6 7"},
        {"tape", FAR + TAPE, FAR + "-2 -1 0 4 5", FAR + "-1 0 60 61"}, {"item", FAR + TAPE, PLACE, "0 1 128 LMIN LMAX"},
        {"read", FAR + TAPE, PLACE}, {"shift", TAPE, PLACE, TAPE, PLACE, FAR + "-1 0 1 3 4"}
    };

    public static void main(String[] args) {
        CHECK.says("Answers: NONE (-1) no such number; BAD (-2) a number is not as told; STATE (-3) as told; FULL (-4); the first "
            + "that a call's words name.");
        CHECK.due("calls of the face", CALLS.length, 34);
        for (int fill = 0; fill < 3; fill++) {
            for (String[] call : CALLS) {
                tryAll(fill, call, call[0], 1);
            }
        }
        CHECK.end();
    }

    private static void tryAll(int fill, String[] call, String begun, int part) {
        if (part == call.length) {
            hall(fill, call[0]).then(begun, "count 0", "told 3");
            return;
        }
        for (String number : call[part].split(" ")) {
            tryAll(fill, call, begun + " " + number, part + 1);
        }
    }

    private static Script hall(int fill, String call) {
        boolean ofTapes = call.equals("tape") || call.equals("item") || call.equals("read") || call.equals("shift");
        Script x = new Script(CHECK);
        if (fill == 0) {
            return x;
        }
        x.then("tape 0 0 4", "item 0 0 5", "tape 1 0 3", "tape 2 3 4", "tape 3 4 0");
        if (ofTapes) {
            return x;
        }
        x.then("one 6 3 12", "one 4 9 0", "one 0 0 24", "act 0 2 5", "wear 13 60");
        if (fill == 1) {
            return x.then("see 0 1 13", "plan 0 0", "book 0 12");
        }
        x.times(3, "one 5 1 7").times(5, "see 0 0 12").times(10, "plan 1 3").times(8, "book 0 12").then("image", "wear 3 9");
        if (call.equals("statute")) {
            x.times(6, "law bald 9");
        }
        if (call.equals("feed")) {
            x.times(100, "feed 98");
        }
        if (call.equals("pass")) {
            x.untilHour(9940);
        }
        return x;
    }
}
