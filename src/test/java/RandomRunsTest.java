import java.util.Random;

/** Runs of calls by a fixed seed, each answer held against PlainLaw's. */
public final class RandomRunsTest {
    private static final int RUNS = 300, CALLS = 512;
    private static final int[] EDGES = {-1, Integer.MIN_VALUE, Integer.MAX_VALUE, -2, 1000};

    private final Checker checker;
    private final Random random;
    private CarpetsLaw x;
    private PlainLaw plain;

    private RandomRunsTest(Checker checker, long seed) {
        this.checker = checker;
        this.random = new Random(seed);
    }

    public static void main(String[] args) {
        Checker checker = new Checker();
        int runs = args.length > 0 ? Integer.parseInt(args[0]) : RUNS;
        int first = args.length > 1 ? Integer.parseInt(args[1]) : 0;
        for (int run = first; run < first + runs && checker.wrong() < 10; run++) {
            checker.about("run " + run);
            new RandomRunsTest(checker, run).run();
        }
        checker.end();
    }

    private void run() {
        x = new CarpetsLaw();
        plain = new PlainLaw();
        int people = random.nextInt(7);
        for (int i = 0; i < people; i++) {
            one(random.nextInt(7), random.nextInt(10), random.nextInt(25));
        }
        int worn = random.nextInt(26);
        for (int i = 0; i < worn; i++) {
            wear(random.nextInt(25), random.nextInt(100));
        }
        int used = people + worn;
        if (random.nextInt(15) == 0) {
            // Close to the last hour, so that what is asked goes beyond it.
            while (plain.told(0) < 9960) {
                pass(60);
                used++;
            }
        }
        while (used < CALLS) {
            used += random.nextInt(60) == 0 ? feedText() : call();
        }
    }

    /** A number 0 .. most - 1, at times the ones around that, at times far off. */
    private int upTo(int most) {
        int luck = random.nextInt(40);
        if (luck == 0) return EDGES[random.nextInt(EDGES.length)];
        if (luck == 1) return most;
        return random.nextInt(most);
    }

    private void due(String call, long got, long want) {
        checker.due(call, got, want);
    }

    private void one(int kind, int v, int cell) {
        due("one(" + kind + ", " + v + ", " + cell + ")", x.one(kind, v, cell), plain.one(kind, v, cell));
    }

    private void wear(int cell, int n) {
        due("wear(" + cell + ", " + n + ")", x.wear(cell, n), plain.wear(cell, n));
    }

    private int feedText() {
        if (random.nextInt(4) != 0) {
            // Signs that stray calls have fed would spoil the text.
            due("statute()", x.statute(), plain.statute());
        }
        StringBuilder text = new StringBuilder();
        int clauses = random.nextInt(8) == 0 ? 10 + random.nextInt(2) : 1 + random.nextInt(4);
        for (int i = 0; i < clauses; i++) {
            if (i > 0) text.append(';');
            clause(text, clauses < 10);
        }
        if (random.nextInt(4) == 0) {
            int at = random.nextInt(text.length());
            switch (random.nextInt(3)) {
                case 0 -> text.deleteCharAt(at);
                case 1 -> text.insert(at, "!(&|;pw=< 09l".charAt(random.nextInt(13)));
                default -> text.setLength(at);
            }
        }
        for (int i = 0; i < text.length(); i++) {
            due("feed", x.feed(text.charAt(i)), plain.feed(text.charAt(i)));
        }
        due("statute() of " + text, x.statute(), plain.statute());
        return text.length() + 2;
    }

    private void clause(StringBuilder text, boolean mayBeLong) {
        int sort = random.nextInt(mayBeLong ? 5 : 1);
        if (sort == 0) {
            text.append("bald ").append(random.nextInt(3) == 0 ? random.nextInt(100) : 40 + random.nextInt(60));
            return;
        }
        text.append(sort < 3 ? "draw " : "bar ").append(random.nextInt(100)).append(' ');
        either(text, 0);
    }

    private void either(StringBuilder text, int depth) {
        factor(text, depth);
        while (random.nextInt(3) == 0) {
            text.append(random.nextBoolean() ? '&' : '|');
            factor(text, depth);
        }
    }

    private void factor(StringBuilder text, int depth) {
        int sort = random.nextInt(depth < 4 ? 4 : 40);
        if (sort == 0) {
            text.append('!');
            factor(text, depth + 1);
        } else if (sort == 1) {
            text.append('(');
            either(text, depth + 1);
            text.append(')');
        } else {
            char letter = "pkvcwh".charAt(random.nextInt(6));
            text.append(letter).append("<=>".charAt(random.nextInt(3)));
            text.append(random.nextInt(letter == 'c' ? 25 : 10));
        }
    }

    private int call() {
        int p = upTo(6);
        int c = upTo(25);
        switch (random.nextInt(36)) {
            case 0 -> one(upTo(7), upTo(10), c);
            case 1 -> of(p, upTo(6));
            case 2 -> due("pull(" + p + ", " + c + ")", x.pull(p, c), plain.pull(p, c));
            case 3 -> due("put(" + p + ", " + c + ")", x.put(p, c), plain.put(p, c));
            case 4 -> wear(c, upTo(100));
            case 5 -> away(p, random.nextInt(4) == 0);
            case 6 -> row(p, upTo(4), upTo(10));
            case 7 -> told(random.nextInt(3) == 0 ? upTo(36) : upTo(5));
            case 8 -> pass(random.nextInt(4) == 0 ? upTo(61) : upTo(4));
            case 9 -> on(upTo(41), random.nextInt(3) == 0 ? 40 + random.nextInt(7) : upTo(47));
            case 10, 11 -> way(p, c, 0);
            case 12 -> way(p, c, 1);
            case 13 -> way(p, c, upTo(3));
            case 14 -> night(p);
            case 15 -> see(p);
            case 16 -> due("from(" + p + ")", x.from(p), plain.from(p));
            case 17 -> can(p, upTo(2));
            case 18 -> odds(p, random.nextInt(2) == 0 ? x.of(p, 4) : c, upTo(2));
            case 19 -> mean(upTo(41), upTo(2));
            case 20 -> plan(random.nextInt(30) == 0 ? -1 : upTo(4));
            case 21 -> ends(upTo(2));
            case 22 -> book(p, random.nextInt(3) == 0 ? c : x.of(p, 2));
            case 23 -> due("looked()", x.looked(), plain.looked());
            case 24 -> judge(upTo(6), upTo(30));
            case 25 -> image();
            case 26 -> act(p, upTo(3));
            case 27 -> due("trace", x.trace(0), plain.trace(0));
            case 28 -> taken(p, upTo(7));
            case 29 -> count(upTo(7));
            case 30 -> tape(upTo(6), upTo(5), upTo(61));
            case 31 -> item(upTo(6), upTo(40));
            case 32 -> read(upTo(6), upTo(40));
            case 33 -> shift(upTo(6), upTo(30), upTo(6), upTo(30), upTo(20));
            case 34 -> fillTape();
            default -> feed(upTo(128));
        }
        return 1;
    }

    private void of(int p, int what) {
        due("of(" + p + ", " + what + ")", x.of(p, what), plain.of(p, what));
    }

    private void away(int p, boolean is) {
        due("away(" + p + ", " + is + ")", x.away(p, is), plain.away(p, is));
    }

    private void row(int p, int part, int n) {
        due("row(" + p + ", " + part + ", " + n + ")", x.row(p, part, n), plain.row(p, part, n));
    }

    private void told(int what) {
        due("told(" + what + ")", x.told(what), plain.told(what));
    }

    private void pass(int n) {
        due("pass(" + n + ")", x.pass(n), plain.pass(n));
    }

    private void on(int n, int what) {
        due("on(" + n + ", " + what + ")", x.on(n, what), plain.on(n, what));
    }

    private void way(int p, int c, int what) {
        // What stands next to one is reached often, what lies afar seldom: both are asked.
        int cell = random.nextBoolean() ? x.on(1 + random.nextInt(5), 40 + Math.floorMod(p, 6)) : c;
        due("way(" + p + ", " + cell + ", " + what + ")", x.way(p, cell, what), plain.way(p, cell, what));
    }

    private void night(int p) {
        int own = x.of(p, 2);
        int cell = own + new int[] {1, -1, 5, -5, 0, 2}[random.nextInt(6)];
        due("night(" + p + ", " + cell + ")", x.night(p, cell), plain.night(p, cell));
    }

    private void see(int p) {
        int who = random.nextInt(6) == 0 ? -1 : p;
        int n = upTo(9);
        // Mostly what will really be so, else hardly ever all of it holds.
        int cell = random.nextInt(4) == 0 ? upTo(25) : x.on(n, 40 + Math.floorMod(p, 6));
        due("see(" + who + ", " + n + ", " + cell + ")", x.see(who, n, cell), plain.see(who, n, cell));
    }

    private void can(int p, int what) {
        due("can(" + p + ", " + what + ")", x.can(p, what), plain.can(p, what));
    }

    private void odds(int p, int c, int part) {
        due("odds(" + p + ", " + c + ", " + part + ")", x.odds(p, c, part), plain.odds(p, c, part));
    }

    private void mean(int n, int part) {
        due("mean(" + n + ", " + part + ")", x.mean(n, part), plain.mean(n, part));
    }

    private void plan(int what) {
        int n = random.nextBoolean() ? upTo(6) : upTo(25);
        due("plan(" + what + ", " + n + ")", x.plan(what, n), plain.plan(what, n));
    }

    private void ends(int what) {
        due("ends(" + what + ")", x.ends(what), plain.ends(what));
    }

    private void book(int p, int c) {
        due("book(" + p + ", " + c + ")", x.book(p, c), plain.book(p, c));
    }

    private void judge(int tape, int i) {
        int from = random.nextBoolean() ? 0 : i;
        due("judge(" + tape + ", " + from + ")", x.judge(tape, from), plain.judge(tape, from));
    }

    private void image() {
        if (random.nextInt(3) == 0) {
            due("image()", x.image(), plain.image());
        } else {
            due("undo()", x.undo(), plain.undo());
        }
    }

    private void act(int p, int act) {
        int with = random.nextBoolean() ? random.nextInt() : random.nextInt(20);
        due("act(" + p + ", " + act + ", " + with + ")", x.act(p, act, with), plain.act(p, act, with));
        for (int i = -1; i <= 21; i++) {
            due("trace(" + i + ") of act(" + p + ", " + act + ")", x.trace(i), plain.trace(i));
        }
        count(6);
    }

    private void taken(int p, int k) {
        due("taken(" + p + ", " + k + ")", x.taken(p, k), plain.taken(p, k));
    }

    private void count(int what) {
        due("count(" + what + ")", x.count(what), plain.count(what));
    }

    private void tape(int tape, int sort, int n) {
        due("tape(" + tape + ", " + sort + ", " + n + ")", x.tape(tape, sort, n), plain.tape(tape, sort, n));
    }

    private void item(int tape, int i) {
        long v = random.nextInt(3) == 0 ? random.nextInt(3) : random.nextLong();
        due("item(" + tape + ", " + i + ", " + v + ")", x.item(tape, i, v), plain.item(tape, i, v));
    }

    private void read(int tape, int i) {
        due("read(" + tape + ", " + i + ")", x.read(tape, i), plain.read(tape, i));
    }

    private void shift(int tape, int i, int other, int j, int n) {
        int to = random.nextBoolean() ? tape : other;
        due("shift(" + tape + ", " + i + ", " + to + ", " + j + ", " + n + ")",
            x.shift(tape, i, to, j, n), plain.shift(tape, i, to, j, n));
        for (int k = 0; k < 60; k += 7) {
            read(to, k);
        }
    }

    /** A row of bytes that tells the wear, mostly rightly, so that judge() has something to look at. */
    private void fillTape() {
        int tape = random.nextInt(6);
        int from = random.nextInt(4);
        tape(tape, 0, from + (random.nextBoolean() ? 25 : random.nextInt(26)));
        for (int c = 0; c < 25; c++) {
            long v = random.nextInt(80) == 0 ? 7 : x.told(10 + c);
            due("item", x.item(tape, from + c, v), plain.item(tape, from + c, v));
        }
        due("judge(" + tape + ", " + from + ")", x.judge(tape, from), plain.judge(tape, from));
    }

    private void feed(int sign) {
        due("feed(" + sign + ")", x.feed(sign), plain.feed(sign));
    }
}
