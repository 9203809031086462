import java.util.ArrayList;
import java.util.Arrays;
import java.util.List;
import java.util.regex.Matcher;
import java.util.regex.Pattern;

/**
 * The document once more, written another way and without care for speed or room, so that RandomRunsTest has
 * something to hold the class against: statutes stay texts, faults are found by a pattern, all is copied anew.
 */
final class PlainLaw {
    private static final long NO = Long.MIN_VALUE;
    private static final Pattern STATUTE = statutePattern();

    private static final class Person {
        int number, kind, v, cell;
        boolean away;
        int[] row = new int[4];

        Person copy() {
            Person p = new Person();
            p.number = number;
            p.kind = kind;
            p.v = v;
            p.cell = cell;
            p.away = away;
            p.row = row.clone();
            return p;
        }
    }

    private static final class World {
        int[] wear = new int[25];
        List<Person> people = new ArrayList<>();
        int hour;
        String law = "";
        List<int[]> seen = new ArrayList<>(), plan = new ArrayList<>(), book = new ArrayList<>();

        World copy() {
            World w = new World();
            w.wear = wear.clone();
            for (Person p : people) {
                w.people.add(p.copy());
            }
            w.hour = hour;
            w.law = law;
            w.seen.addAll(seen);
            w.plan.addAll(plan);
            w.book.addAll(book);
            return w;
        }
    }

    private World world = new World();
    private World image;
    private String text = "";
    private int statutes;
    private final List<Integer> trace = new ArrayList<>();
    private final Object[] tapes = new Object[6];

    PlainLaw() {
        Arrays.fill(world.wear, 5);
    }

    // ---- statutes

    private static Pattern statutePattern() {
        String test = "[pkvcwh][<=>]\\d\\d?";
        String factor = test;
        for (int depth = 0; depth < 4; depth++) {
            String either = "(?:" + factor + ")(?:[&|](?:" + factor + "))*";
            factor = test + "|!(?:" + factor + ")|\\((?:" + either + ")\\)";
        }
        String either = "(?:" + factor + ")(?:[&|](?:" + factor + "))*";
        String clause = "(?:draw \\d\\d? " + either + "|bar \\d\\d? " + either + "|bald \\d\\d?)";
        return Pattern.compile(clause + "(?:;" + clause + "){0,9}", Pattern.DOTALL);
    }

    /** The FAULT, or -1. */
    static int fault(String text) {
        if (STATUTE.matcher(text).matches()) {
            return -1;
        }
        for (int end = 1; end <= text.length(); end++) {
            Matcher m = STATUTE.matcher(text.substring(0, end));
            if (!m.matches() && !m.hitEnd()) {
                return end - 1;
            }
        }
        return text.length();
    }

    private static int bald(World w) {
        int bald = 95;
        for (String clause : w.law.split(";")) {
            if (clause.startsWith("bald ")) {
                bald = Integer.parseInt(clause.substring(5));
            }
        }
        return bald;
    }

    private static List<String> parts(String e, char between) {
        List<String> parts = new ArrayList<>();
        int open = 0;
        int begin = 0;
        for (int i = 0; i < e.length(); i++) {
            char c = e.charAt(i);
            open += c == '(' ? 1 : c == ')' ? -1 : 0;
            if (c == between && open == 0) {
                parts.add(e.substring(begin, i));
                begin = i + 1;
            }
        }
        parts.add(e.substring(begin));
        return parts;
    }

    private static boolean holds(World w, String e, Person p, int cell) {
        List<String> either = parts(e, '|');
        if (either.size() > 1) {
            return either.stream().anyMatch(t -> holds(w, t, p, cell));
        }
        List<String> both = parts(e, '&');
        if (both.size() > 1) {
            return both.stream().allMatch(f -> holds(w, f, p, cell));
        }
        if (e.charAt(0) == '!') {
            return !holds(w, e.substring(1), p, cell);
        }
        if (e.charAt(0) == '(') {
            return holds(w, e.substring(1, e.length() - 1), p, cell);
        }
        int number = Integer.parseInt(e.substring(2));
        int is = switch (e.charAt(0)) {
            case 'p' -> p.number;
            case 'k' -> p.kind;
            case 'v' -> p.v;
            case 'c' -> cell;
            case 'w' -> w.wear[cell] / 10;
            default -> w.hour % 10;
        };
        return switch (e.charAt(1)) {
            case '<' -> is < number;
            case '=' -> is == number;
            default -> is > number;
        };
    }

    private static int sum(World w, Person p, int cell) {
        int sum = w.wear[cell];
        if (w.law.isEmpty()) {
            return sum;
        }
        for (String clause : w.law.split(";")) {
            String[] words = clause.split(" ");
            if (!words[0].equals("bald") && holds(w, words[2], p, cell)) {
                int n = Integer.parseInt(words[1]);
                sum += words[0].equals("draw") ? n : -n;
            }
        }
        return sum;
    }

    // ---- the law

    private static boolean isBald(World w, int cell) {
        return w.wear[cell] >= bald(w);
    }

    private static int pullOf(World w, Person p, int cell) {
        int sum = sum(w, p, cell);
        int kneels = w.hour % 2 == 0 ? sum : sum / 2;
        return switch (p.kind) {
            case 0, 1 -> sum;
            case 2 -> -sum;
            case 3 -> kneels;
            case 4 -> sum + (cell % 2 == 0 ? p.v : 0);
            case 5 -> -sum + (cell == p.cell + 1 && cell / 5 == p.cell / 5 ? 20 : 0);
            default -> kneels + p.row[w.hour % 4];
        };
    }

    private static List<Integer> nextCells(int cell) {
        int y = cell / 5;
        int x = cell % 5;
        int[][] steps = {{-1, 0}, {0, 1}, {1, 0}, {0, -1}};
        List<Integer> next = new ArrayList<>();
        for (int[] s : steps) {
            int ny = y + s[0];
            int nx = x + s[1];
            if (ny >= 0 && ny < 5 && nx >= 0 && nx < 5) {
                next.add(ny * 5 + nx);
            }
        }
        return next;
    }

    private static int sends(World w, Person p) {
        int best = p.cell;
        Integer most = null;
        for (int cell : nextCells(p.cell)) {
            if (!isBald(w, cell) && (most == null || pullOf(w, p, cell) > most)) {
                most = pullOf(w, p, cell);
                best = cell;
            }
        }
        return best;
    }

    private static int treadOf(Person p) {
        return new int[] {2, 3, 1, 6, 3, 2, 6}[p.kind];
    }

    private static void more(World w, int cell, int n) {
        w.wear[cell] = Math.min(99, w.wear[cell] + n);
    }

    private static World after(World from, int hours) {
        World w = from.copy();
        for (int i = 0; i < hours; i++) {
            for (Person p : w.people) {
                if (!p.away) {
                    p.cell = sends(w, p);
                    more(w, p.cell, treadOf(p));
                }
            }
            w.hour++;
            if (w.hour % 10 == 0) {
                for (int c = 0; c < 25; c++) {
                    w.wear[c] = Math.max(0, w.wear[c] - 1);
                }
            }
        }
        return w;
    }

    private static int gets(World from, int person, int cell) {
        World w = from;
        for (int n = 0; n <= 40; n++) {
            if (w.people.get(person).cell == cell) {
                return n;
            }
            w = after(w, 1);
        }
        return -5;
    }

    private static int steps(World w, int person, int cell) {
        List<Integer> queue = new ArrayList<>();
        int[] far = new int[25];
        Arrays.fill(far, -5);
        queue.add(w.people.get(person).cell);
        far[queue.get(0)] = 0;
        for (int i = 0; i < queue.size(); i++) {
            for (int next : nextCells(queue.get(i))) {
                if (far[next] == -5 && !isBald(w, next)) {
                    far[next] = far[queue.get(i)] + 1;
                    queue.add(next);
                }
            }
        }
        return far[cell];
    }

    private static int block(World from, int person, int cell) {
        World alone = from.copy();
        for (Person p : alone.people) {
            p.away |= p.number != person;
        }
        int own = alone.people.get(person).cell;
        int asItIs = gets(alone, person, cell);
        int answer = -5;
        int greatest = asItIs == -5 ? 1000 : asItIs;
        for (int c = 0; c < 25; c++) {
            if (c == cell || c == own) {
                continue;
            }
            World w = alone.copy();
            w.wear[c] = 99;
            int gets = gets(w, person, cell);
            gets = gets == -5 ? 1000 : gets;
            if (gets > greatest) {
                greatest = gets;
                answer = c;
            }
        }
        return answer;
    }

    private static int balds(World w) {
        int n = 0;
        for (int c = 0; c < 25; c++) {
            n += isBald(w, c) ? 1 : 0;
        }
        return n;
    }

    private static int all(World w) {
        return Arrays.stream(w.wear).sum();
    }

    private static int beating(World w) {
        for (int less = 0; less <= 99; less++) {
            World beaten = w.copy();
            for (int c = 0; c < 25; c++) {
                beaten.wear[c] = Math.max(0, w.wear[c] - less);
            }
            if (balds(beaten) == 0) {
                return less;
            }
        }
        return -5;
    }

    private static boolean allSeen(World w) {
        for (int[] row : w.seen) {
            if (after(w, row[1]).people.get(row[0]).cell != row[2]) {
                return false;
            }
        }
        return true;
    }

    private static long fraction(long above, long below, int part) {
        long a = above;
        long b = below;
        while (b != 0) {
            long rest = a % b;
            a = b;
            b = rest;
        }
        return part == 0 ? above / a : below / a;
    }

    // ---- the calls

    private boolean isPerson(int p) {
        return p >= 0 && p < world.people.size();
    }

    private static boolean in(int n, int least, int most) {
        return n >= least && n <= most;
    }

    private static boolean isCell(int c) {
        return in(c, 0, 24);
    }

    int one(int kind, int v, int cell) {
        if (!in(kind, 0, 6) || !isCell(cell)) return -1;
        if (!in(v, 0, 9)) return -2;
        if (world.people.size() == 6) return -4;
        Person p = new Person();
        p.number = world.people.size();
        p.kind = kind;
        p.v = v;
        p.cell = cell;
        world.people.add(p);
        return p.number;
    }

    int of(int person, int what) {
        if (!isPerson(person) || !in(what, 0, 5)) return -1;
        Person p = world.people.get(person);
        return new int[] {p.kind, p.v, p.cell, p.away ? 1 : 0, sends(world, p), treadOf(p)}[what];
    }

    int pull(int person, int cell) {
        return isPerson(person) && isCell(cell) ? pullOf(world, world.people.get(person), cell) : -10001;
    }

    int put(int person, int cell) {
        if (!isPerson(person) || !isCell(cell)) return -1;
        int was = world.people.get(person).cell;
        world.people.get(person).cell = cell;
        return was;
    }

    int wear(int cell, int n) {
        if (!isCell(cell)) return -1;
        if (!in(n, 0, 99)) return -2;
        int was = world.wear[cell];
        world.wear[cell] = n;
        return was;
    }

    int away(int person, boolean is) {
        if (!isPerson(person)) return -1;
        int was = world.people.get(person).away ? 1 : 0;
        world.people.get(person).away = is;
        return was;
    }

    int row(int person, int part, int n) {
        if (!isPerson(person) || !in(part, 0, 3)) return -1;
        if (!in(n, 0, 9)) return -2;
        Person p = world.people.get(person);
        if (p.kind != 6) return -3;
        int was = p.row[part];
        p.row[part] = n;
        return was;
    }

    int feed(int sign) {
        if (!in(sign, 0, 127)) return -2;
        if (text.length() == 100) return -4;
        text += (char) sign;
        return text.length();
    }

    int statute() {
        if (statutes == 6) return -4;
        int fault = fault(text);
        String was = text;
        text = "";
        if (fault >= 0) return -10 - fault;
        world.law = was;
        return statutes++;
    }

    int told(int what) {
        if (in(what, 10, 34)) return world.wear[what - 10];
        return switch (what) {
            case 0 -> world.hour;
            case 1 -> bald(world);
            case 2 -> balds(world);
            case 3 -> all(world);
            case 4 -> beating(world);
            default -> -1;
        };
    }

    int pass(int n) {
        if (!in(n, 0, 60)) return -2;
        if (world.hour + n > 9999) return -3;
        world = after(world, n);
        return world.hour;
    }

    int on(int n, int what) {
        boolean ofPerson = what >= 40 && isPerson(what - 40);
        if (what != 0 && !in(what, 10, 34) && !ofPerson) return -1;
        if (!in(n, 0, 40)) return -2;
        World w = after(world, n);
        if (what == 0) return balds(w);
        return ofPerson ? w.people.get(what - 40).cell : w.wear[what - 10];
    }

    int way(int person, int cell, int what) {
        if (!isPerson(person) || !isCell(cell)) return -1;
        return switch (what) {
            case 0 -> gets(world, person, cell);
            case 1 -> steps(world, person, cell);
            case 2 -> block(world, person, cell);
            default -> -1;
        };
    }

    int night(int person, int cell) {
        if (!isPerson(person) || !isCell(cell)) return -1;
        if (!nextCells(world.people.get(person).cell).contains(cell)) return -2;
        for (int n = 0; n <= 99; n++) {
            World w = world.copy();
            more(w, cell, n);
            if (sends(w, w.people.get(person)) == cell) return n;
        }
        return -5;
    }

    private static int addRow(List<int[]> rows, int most, int... row) {
        if (rows.size() == most) return -4;
        rows.add(row);
        return rows.size();
    }

    int see(int person, int n, int cell) {
        if (person == -1) {
            world.seen.clear();
            return 0;
        }
        if (!isPerson(person) || !isCell(cell)) return -1;
        if (!in(n, 0, 8)) return -2;
        return addRow(world.seen, 5, person, n, cell);
    }

    int from(int person) {
        if (!isPerson(person)) return -1;
        int bits = 0;
        for (int c = 0; c < 25; c++) {
            World w = world.copy();
            w.people.get(person).cell = c;
            bits += allSeen(w) ? 1 << c : 0;
        }
        return bits;
    }

    int can(int person, int what) {
        if (!isPerson(person) || !in(what, 0, 1)) return -1;
        List<Integer> all = new ArrayList<>();
        for (int v = 0; v < 10; v++) {
            World w = world.copy();
            w.people.get(person).v = v;
            if (allSeen(w)) all.add(v);
        }
        if (what == 0) return all.size();
        return all.isEmpty() ? -5 : all.get(0);
    }

    long odds(int person, int cell, int part) {
        if (!isPerson(person) || !isCell(cell) || !in(part, 0, 1)) return NO;
        int n = 0;
        for (int c = 0; c < 25; c++) {
            World w = world.copy();
            more(w, c, 10);
            n += sends(w, w.people.get(person)) == cell ? 1 : 0;
        }
        return fraction(n, 25, part);
    }

    long mean(int n, int part) {
        if (!in(n, 0, 40) || !in(part, 0, 1)) return NO;
        return fraction(all(after(world, n)), 25, part);
    }

    int plan(int what, int n) {
        if (what == -1) {
            world.plan.clear();
            return 0;
        }
        if (!in(what, 0, 3) || what == 1 && !isCell(n) || what >= 2 && !isPerson(n)) return -1;
        return addRow(world.plan, 10, what, n);
    }

    int ends(int what) {
        if (!in(what, 0, 1)) return -1;
        World w = world.copy();
        for (int[] row : world.plan) {
            switch (row[0]) {
                case 0 -> w = after(w, 1);
                case 1 -> more(w, row[1], 10);
                default -> w.people.get(row[1]).away = row[0] == 2;
            }
        }
        return what == 0 ? all(w) : balds(w);
    }

    int book(int person, int cell) {
        if (person == -1) {
            world.book.clear();
            return 0;
        }
        if (!isPerson(person) || !isCell(cell)) return -1;
        return addRow(world.book, 8, person, cell);
    }

    int looked() {
        for (int i = 0; i < world.book.size(); i++) {
            if (world.people.get(world.book.get(i)[0]).cell != world.book.get(i)[1]) return i;
        }
        return -5;
    }

    int judge(int tape, int i) {
        if (!in(tape, 0, 5)) return -1;
        if (tapes[tape] == null) return 100;
        if (!(tapes[tape] instanceof byte[])) return -12;
        byte[] row = (byte[]) tapes[tape];
        if (i < 0) return 100;
        for (int c = 0; c < 25; c++) {
            if ((long) i + c >= row.length) return 100 + c;
            if (row[i + c] != world.wear[c]) return c;
        }
        return -5;
    }

    int image() {
        image = world.copy();
        return world.people.size();
    }

    int undo() {
        if (image == null) return -3;
        world = image.copy();
        return world.people.size();
    }

    /** The body of a kind for an act, or that of the next kind above that has one. */
    private int body(int kind, int act) {
        String[] bodies = {"10 11 12", "-- 20 --", "30 -- --", "-- -- 40", "50 51 --", "-- -- 60", "71 70 --"};
        int[] above = {-1, 0, 0, 0, 1, 2, 3};
        String found = bodies[kind].split(" ")[act];
        return found.equals("--") ? body(above[kind], act) : Integer.parseInt(found);
    }

    private int run(Person p, int body, int x) {
        trace.add(body);
        int i = p.number;
        int v = p.v;
        return switch (body) {
            case 10 -> x + i;
            case 11 -> run(p, body(p.kind, 0), x) - v;
            case 12 -> run(p, body(p.kind, 1), x) * 2;
            case 20 -> run(p, 11, x) ^ 6;
            case 30 -> run(p, 10, x * 3);
            case 40 -> run(p, 12, x) + run(p, body(p.kind, 1), 1);
            case 50 -> -run(p, 10, x);
            case 51 -> run(p, 20, x + 1);
            case 60 -> run(p, 12, x - i);
            case 70 -> run(p, 11, x) + run(p, 10, 2);
            default -> run(p, 10, x) ^ v;
        };
    }

    int act(int person, int act, int x) {
        trace.clear();
        if (!isPerson(person) || !in(act, 0, 2)) return 0;
        Person p = world.people.get(person);
        return run(p, body(p.kind, act), x);
    }

    int trace(int i) {
        return in(i, 0, Math.min(20, trace.size()) - 1) ? trace.get(i) : -1;
    }

    int taken(int person, int k) {
        if (!in(k, 0, 6)) return -2;
        if (!isPerson(person)) return -11;
        String[] under = {"0123456", "14", "25", "36", "4", "5", "6"};
        int kind = world.people.get(person).kind;
        return under[k].indexOf('0' + kind) >= 0 ? kind : -12;
    }

    int count(int what) {
        return switch (what) {
            case 0 -> world.people.size();
            case 1 -> statutes;
            case 2 -> world.seen.size();
            case 3 -> world.plan.size();
            case 4 -> world.book.size();
            case 5 -> text.length();
            case 6 -> trace.size();
            default -> -2;
        };
    }

    int tape(int tape, int sort, int n) {
        if (!in(tape, 0, 5)) return -1;
        if (!in(sort, -1, 4) || sort != -1 && n > 60) return -2;
        if (sort != -1 && n < 0) return -14;
        tapes[tape] = switch (sort) {
            case 0 -> new byte[n];
            case 1 -> new short[n];
            case 2 -> new int[n];
            case 3 -> new long[n];
            case 4 -> new boolean[n];
            default -> null;
        };
        return 1;
    }

    int item(int tape, int i, long v) {
        if (!in(tape, 0, 5)) return -1;
        Object t = tapes[tape];
        if (t == null) return -11;
        if (!in(i, 0, java.lang.reflect.Array.getLength(t) - 1)) return -13;
        if (t instanceof byte[] row) row[i] = (byte) v;
        if (t instanceof short[] row) row[i] = (short) v;
        if (t instanceof int[] row) row[i] = (int) v;
        if (t instanceof long[] row) row[i] = v;
        if (t instanceof boolean[] row) row[i] = v != 0;
        return 1;
    }

    long read(int tape, int i) {
        if (!in(tape, 0, 5) || tapes[tape] == null) return NO;
        Object t = tapes[tape];
        if (!in(i, 0, java.lang.reflect.Array.getLength(t) - 1)) return NO;
        return t instanceof boolean[] row ? row[i] ? 1 : 0 : java.lang.reflect.Array.getLong(t, i);
    }

    int shift(int tape, int i, int other, int j, int n) {
        if (!in(tape, 0, 5) || !in(other, 0, 5)) return -1;
        Object a = tapes[tape];
        Object b = tapes[other];
        if (a == null || b == null) return -11;
        if (a.getClass() != b.getClass()) return -12;
        long endA = java.lang.reflect.Array.getLength(a);
        long endB = java.lang.reflect.Array.getLength(b);
        if (n < 0 || i < 0 || j < 0 || (long) i + n > endA || (long) j + n > endB) return -13;
        System.arraycopy(a, i, b, j, n);
        return n;
    }
}
