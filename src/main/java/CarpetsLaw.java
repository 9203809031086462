/**
 * A hall of 25 cells whose pile is worn by steps, and people whom the wear and the statutes send about.
 * The words in capitals in the comments are those of the document.
 */
public final class CarpetsLaw {
    public static final int NONE = -1, BAD = -2, STATE = -3, FULL = -4;
    public static final long NO = Long.MIN_VALUE;

    private static final int NEVER = -5;
    private static final int FAULT_BASE = -10;
    private static final int NOTHING = -11, CAST = -12, PLACE = -13, SIZE = -14;
    private static final int NO_PULL = -10001;

    private static final int SIDE = 5, CELLS = 25, SIDES = 4;
    private static final int LEFT_COLUMN = 1 | 1 << 5 | 1 << 10 | 1 << 15 | 1 << 20;
    private static final int RIGHT_COLUMN = LEFT_COLUMN << 4;
    private static final int WEAR_LIMIT = 99, WEAR_AT_FIRST = 5, BALD_WITHOUT = 95;
    private static final int PEOPLE_LIMIT = 6, ROW_PARTS = 4;
    private static final int HOUR_LIMIT = 9999, PASS_LIMIT = 60, ASKED_LIMIT = 40, SEEN_HOURS = 8;
    private static final int MORE_WEAR = 10;

    private static final int KINDS = 7;
    private static final int[] KIND_ABOVE = {-1, 0, 0, 0, 1, 2, 3};

    private static final int SEEN_LIMIT = 5, PLAN_LIMIT = 10, BOOK_LIMIT = 8;
    private static final int PLAN_HOUR = 0, PLAN_WEAR = 1, PLAN_AWAY = 2, PLAN_BACK = 3;

    private static final int SIGNS = 128, TEXT_LIMIT = 100, STATUTE_LIMIT = 6, CLAUSE_LIMIT = 10, NEST_LIMIT = 4;
    private static final String LETTERS = "pkvcwh", SIGNS_OF_TESTS = "<=>";
    private static final int TEST = 0, NOT = 1, AND = 2, OR = 3, DRAW = 4, BAR = 5;

    private static final int TRACE_LIMIT = 20;

    private static final int TAPES = 6, TAPE_LIMIT = 60, SORTS = 5, EMPTY = -1;
    private static final int BYTES = 0, SHORTS = 1, INTS = 2, BOOLEANS = 4;
    private static final int TAPE_ENDS = 100;

    private final Hall now;
    // What is asked is tried out here, so that no call makes a hall of its own.
    private final Hall trial;
    private final Rows seen = new Rows(SEEN_LIMIT);
    private final Rows planned = new Rows(PLAN_LIMIT);
    private final Rows booked = new Rows(BOOK_LIMIT);

    private boolean hasImage;
    private final Hall imageHall;
    private final Rows imageSeen = new Rows(SEEN_LIMIT);
    private final Rows imagePlanned = new Rows(PLAN_LIMIT);
    private final Rows imageBooked = new Rows(BOOK_LIMIT);

    private final byte[] text = new byte[TEXT_LIMIT];
    private int textLength;
    // A text with a FAULT leaves this one to the next text: only a good text uses one up.
    private Statute blank = new Statute();
    private int statutes;

    private final Deed deed = new Deed();

    private final int[] tapeSorts = new int[TAPES];
    private final int[] tapeLengths = new int[TAPES];
    private final long[] tapeItems = new long[TAPES * TAPE_LIMIT];

    public CarpetsLaw() {
        Walker[] kinds = {
            new Walker(), new Train(), new Socks(), new Kneeler(), new Guard(), new Child(), new Told()
        };
        Statute without = new Statute();
        now = new Hall(kinds, without);
        trial = new Hall(kinds, without);
        imageHall = new Hall(kinds, without);
        for (int tape = 0; tape < TAPES; tape++) {
            tapeSorts[tape] = EMPTY;
        }
    }

    // ---- people, cells, statutes

    public int one(int kind, int v, int cell) {
        if (kind < 0 || kind >= KINDS || !isCell(cell)) {
            return NONE;
        }
        if (!isDigit(v)) {
            return BAD;
        }
        return now.welcome(kind, v, cell);
    }

    public int of(int person, int what) {
        if (!isPerson(person)) {
            return NONE;
        }
        switch (what) {
            case 0: return now.kind[person];
            case 1: return now.v[person];
            case 2: return now.cell[person];
            case 3: return now.away[person] ? 1 : 0;
            case 4: return now.sends(person);
            case 5: return now.kindOf(person).tread();
            default: return NONE;
        }
    }

    public int pull(int person, int cell) {
        if (!isPerson(person) || !isCell(cell)) {
            return NO_PULL;
        }
        return now.pullOn(person, cell);
    }

    public int put(int person, int cell) {
        if (!isPerson(person) || !isCell(cell)) {
            return NONE;
        }
        int before = now.cell[person];
        now.cell[person] = cell;
        return before;
    }

    public int wear(int cell, int n) {
        if (!isCell(cell)) {
            return NONE;
        }
        if (n < 0 || n > WEAR_LIMIT) {
            return BAD;
        }
        int before = now.wear[cell];
        now.wear[cell] = n;
        return before;
    }

    public int away(int person, boolean is) {
        if (!isPerson(person)) {
            return NONE;
        }
        int before = now.away[person] ? 1 : 0;
        now.away[person] = is;
        return before;
    }

    public int row(int person, int part, int n) {
        if (!isPerson(person) || part < 0 || part >= ROW_PARTS) {
            return NONE;
        }
        if (!isDigit(n)) {
            return BAD;
        }
        if (!(now.kindOf(person) instanceof Told)) {
            return STATE;
        }
        int place = person * ROW_PARTS + part;
        int before = now.rows[place];
        now.rows[place] = n;
        return before;
    }

    public int feed(int sign) {
        if (sign < 0 || sign >= SIGNS) {
            return BAD;
        }
        if (textLength >= TEXT_LIMIT) {
            return FULL;
        }
        text[textLength] = (byte) sign;
        textLength++;
        return textLength;
    }

    public int statute() {
        if (statutes >= STATUTE_LIMIT) {
            return FULL;
        }
        boolean good = blank.readFrom(text, textLength);
        textLength = 0;
        if (!good) {
            return FAULT_BASE - blank.at;
        }
        now.law = blank;
        blank = new Statute();
        statutes++;
        return statutes - 1;
    }

    public int told(int what) {
        switch (what) {
            case 0: return now.hour;
            case 1: return now.law.bald;
            case 2: return now.countBald();
            case 3: return now.wearOfAll();
            case 4: return now.beating();
            default: return isCell(what - 10) ? now.wear[what - 10] : NONE;
        }
    }

    // ---- hours

    public int pass(int n) {
        if (n < 0 || n > PASS_LIMIT) {
            return BAD;
        }
        if (now.hour + n > HOUR_LIMIT) {
            return STATE;
        }
        now.goHours(n);
        return now.hour;
    }

    public int on(int n, int what) {
        int cell = what - 10;
        int person = what - 40;
        if (what != 0 && !isCell(cell) && !isPerson(person)) {
            return NONE;
        }
        if (!isAskedSpan(n)) {
            return BAD;
        }
        trial.take(now);
        trial.goHours(n);
        if (isCell(cell)) {
            return trial.wear[cell];
        }
        return isPerson(person) ? trial.cell[person] : trial.countBald();
    }

    public int way(int person, int cell, int what) {
        if (!isPerson(person) || !isCell(cell)) {
            return NONE;
        }
        switch (what) {
            case 0:
                trial.take(now);
                return trial.hoursTo(person, cell);
            case 1: return now.stepsTo(person, cell);
            case 2: return blockOf(person, cell);
            default: return NONE;
        }
    }

    public int night(int person, int cell) {
        if (!isPerson(person) || !isCell(cell)) {
            return NONE;
        }
        if (!isNext(now.cell[person], cell)) {
            return BAD;
        }
        trial.take(now);
        for (int more = 0; more <= WEAR_LIMIT; more++) {
            trial.wear[cell] = now.wear[cell];
            trial.tread(cell, more);
            if (trial.sends(person) == cell) {
                return more;
            }
        }
        return NEVER;
    }

    // ---- seen, odds

    public int see(int person, int n, int cell) {
        if (person == -1) {
            return seen.clear();
        }
        if (!isPerson(person) || !isCell(cell)) {
            return NONE;
        }
        if (n < 0 || n > SEEN_HOURS) {
            return BAD;
        }
        return seen.add(person, n, cell);
    }

    public int from(int person) {
        if (!isPerson(person)) {
            return NONE;
        }
        int cells = 0;
        for (int cell = 0; cell < CELLS; cell++) {
            trial.take(now);
            trial.cell[person] = cell;
            if (trialGoesAsSeen()) {
                cells |= 1 << cell;
            }
        }
        return cells;
    }

    public int can(int person, int what) {
        if (!isPerson(person) || what < 0 || what > 1) {
            return NONE;
        }
        int many = 0;
        int least = NEVER;
        for (int v = 9; v >= 0; v--) {
            trial.take(now);
            trial.v[person] = v;
            if (trialGoesAsSeen()) {
                many++;
                least = v;
            }
        }
        return what == 0 ? many : least;
    }

    public long odds(int person, int cell, int part) {
        if (!isPerson(person) || !isCell(cell) || !isFractionPart(part)) {
            return NO;
        }
        trial.take(now);
        int sent = 0;
        for (int trodden = 0; trodden < CELLS; trodden++) {
            trial.tread(trodden, MORE_WEAR);
            if (trial.sends(person) == cell) {
                sent++;
            }
            trial.wear[trodden] = now.wear[trodden];
        }
        return shareOfCells(sent, part);
    }

    public long mean(int n, int part) {
        if (!isAskedSpan(n) || !isFractionPart(part)) {
            return NO;
        }
        trial.take(now);
        trial.goHours(n);
        return shareOfCells(trial.wearOfAll(), part);
    }

    // ---- plans, books

    public int plan(int what, int n) {
        switch (what) {
            case -1: return planned.clear();
            case PLAN_HOUR: return planned.add(what, 0, 0);
            case PLAN_WEAR: return isCell(n) ? planned.add(what, n, 0) : NONE;
            case PLAN_AWAY:
            case PLAN_BACK: return isPerson(n) ? planned.add(what, n, 0) : NONE;
            default: return NONE;
        }
    }

    public int ends(int what) {
        if (what < 0 || what > 1) {
            return NONE;
        }
        trial.take(now);
        for (int row = 0; row < planned.count; row++) {
            carryOutInTrial(planned.part(row, 0), planned.part(row, 1));
        }
        return what == 0 ? trial.wearOfAll() : trial.countBald();
    }

    public int book(int person, int cell) {
        if (person == -1) {
            return booked.clear();
        }
        if (!isPerson(person) || !isCell(cell)) {
            return NONE;
        }
        return booked.add(person, cell, 0);
    }

    public int looked() {
        for (int row = 0; row < booked.count; row++) {
            if (now.cell[booked.part(row, 0)] != booked.part(row, 1)) {
                return row;
            }
        }
        return NEVER;
    }

    // ---- judging, the image, acts, tapes

    public int judge(int tape, int i) {
        if (!isTape(tape)) {
            return NONE;
        }
        if (tapeSorts[tape] == EMPTY) {
            return TAPE_ENDS;
        }
        if (tapeSorts[tape] != BYTES) {
            return CAST;
        }
        if (i < 0) {
            return TAPE_ENDS;
        }
        for (int cell = 0; cell < CELLS; cell++) {
            if (i >= tapeLengths[tape] - cell) {
                return TAPE_ENDS + cell;
            }
            if (tapeItems[tape * TAPE_LIMIT + i + cell] != now.wear[cell]) {
                return cell;
            }
        }
        return NEVER;
    }

    public int image() {
        hasImage = true;
        imageHall.take(now);
        imageSeen.take(seen);
        imagePlanned.take(planned);
        imageBooked.take(booked);
        return now.people;
    }

    public int undo() {
        if (!hasImage) {
            return STATE;
        }
        now.take(imageHall);
        seen.take(imageSeen);
        planned.take(imagePlanned);
        booked.take(imageBooked);
        return now.people;
    }

    public int act(int person, int act, int x) {
        deed.bodies = 0;
        if (!isPerson(person)) {
            return 0;
        }
        deed.number = person;
        deed.v = now.v[person];
        Walker kind = now.kindOf(person);
        switch (act) {
            case 0: return kind.bows(deed, x);
            case 1: return kind.walks(deed, x);
            case 2: return kind.tells(deed, x);
            default: return 0;
        }
    }

    public int trace(int i) {
        if (i < 0 || i >= deed.bodies || i >= TRACE_LIMIT) {
            return NONE;
        }
        return deed.trace[i];
    }

    public int taken(int person, int k) {
        if (k < 0 || k >= KINDS) {
            return BAD;
        }
        if (!isPerson(person)) {
            return NOTHING;
        }
        int own = now.kind[person];
        int kind = own;
        for (int levels = 0; levels < KINDS && kind >= 0; levels++) {
            if (kind == k) {
                return own;
            }
            kind = KIND_ABOVE[kind];
        }
        return CAST;
    }

    public int count(int what) {
        switch (what) {
            case 0: return now.people;
            case 1: return statutes;
            case 2: return seen.count;
            case 3: return planned.count;
            case 4: return booked.count;
            case 5: return textLength;
            case 6: return deed.bodies;
            default: return BAD;
        }
    }

    public int tape(int tape, int sort, int n) {
        if (!isTape(tape)) {
            return NONE;
        }
        if (sort == EMPTY) {
            tapeSorts[tape] = EMPTY;
            return 1;
        }
        if (sort < 0 || sort >= SORTS || n > TAPE_LIMIT) {
            return BAD;
        }
        if (n < 0) {
            return SIZE;
        }
        tapeSorts[tape] = sort;
        tapeLengths[tape] = n;
        for (int i = 0; i < n; i++) {
            tapeItems[tape * TAPE_LIMIT + i] = 0;
        }
        return 1;
    }

    public int item(int tape, int i, long v) {
        if (!isTape(tape)) {
            return NONE;
        }
        if (tapeSorts[tape] == EMPTY) {
            return NOTHING;
        }
        if (i < 0 || i >= tapeLengths[tape]) {
            return PLACE;
        }
        tapeItems[tape * TAPE_LIMIT + i] = asItem(tapeSorts[tape], v);
        return 1;
    }

    public long read(int tape, int i) {
        if (!isTape(tape) || tapeSorts[tape] == EMPTY || i < 0 || i >= tapeLengths[tape]) {
            return NO;
        }
        return tapeItems[tape * TAPE_LIMIT + i];
    }

    public int shift(int tape, int i, int other, int j, int n) {
        if (!isTape(tape) || !isTape(other)) {
            return NONE;
        }
        if (tapeSorts[tape] == EMPTY || tapeSorts[other] == EMPTY) {
            return NOTHING;
        }
        if (tapeSorts[tape] != tapeSorts[other]) {
            return CAST;
        }
        if (!hasItems(tape, i, n) || !hasItems(other, j, n)) {
            return PLACE;
        }
        System.arraycopy(tapeItems, tape * TAPE_LIMIT + i, tapeItems, other * TAPE_LIMIT + j, n);
        return n;
    }

    // ---- what the calls share

    private boolean isPerson(int person) {
        return person >= 0 && person < now.people;
    }

    private static boolean isCell(int cell) {
        return cell >= 0 && cell < CELLS;
    }

    private static boolean isDigit(int n) {
        return n >= 0 && n <= 9;
    }

    private static boolean isAskedSpan(int hours) {
        return hours >= 0 && hours <= ASKED_LIMIT;
    }

    private static boolean isFractionPart(int part) {
        return part == 0 || part == 1;
    }

    private static boolean isTape(int tape) {
        return tape >= 0 && tape < TAPES;
    }

    private boolean hasItems(int tape, int from, int n) {
        return from >= 0 && n >= 0 && n <= tapeLengths[tape] - from;
    }

    private static long asItem(int sort, long v) {
        switch (sort) {
            case BYTES: return (byte) v;
            case SHORTS: return (short) v;
            case INTS: return (int) v;
            case BOOLEANS: return v != 0 ? 1 : 0;
            default: return v;
        }
    }

    /** The CELL on a side (0 above, 1 to the right, 2 below, 3 to the left) of one; NONE at the hall's edge. */
    private static int nextTo(int cell, int side) {
        switch (side) {
            case 0: return cell >= SIDE ? cell - SIDE : NONE;
            case 1: return cell % SIDE < SIDE - 1 ? cell + 1 : NONE;
            case 2: return cell < CELLS - SIDE ? cell + SIDE : NONE;
            default: return cell % SIDE > 0 ? cell - 1 : NONE;
        }
    }

    private static boolean isNext(int cell, int other) {
        for (int side = 0; side < SIDES; side++) {
            if (nextTo(cell, side) == other) {
                return true;
            }
        }
        return false;
    }

    /** A part of n/25 in lowest terms: 25 has no divisors but 1, 5 and 25. */
    private static long shareOfCells(int n, int part) {
        int common = 1;
        if (n % CELLS == 0) {
            common = CELLS;
        } else if (n % SIDE == 0) {
            common = SIDE;
        }
        return part == 0 ? n / common : CELLS / common;
    }

    private int blockOf(int person, int cell) {
        leaveAloneInTrial(person);
        int latest = orTooLate(trial.hoursTo(person, cell));
        int block = NEVER;
        // No cell delays one who never gets there, and the first that stops one for good is the answer.
        for (int worn = 0; worn < CELLS && latest <= ASKED_LIMIT; worn++) {
            if (worn == cell || worn == now.cell[person]) {
                continue;
            }
            leaveAloneInTrial(person);
            trial.wear[worn] = WEAR_LIMIT;
            int hours = orTooLate(trial.hoursTo(person, cell));
            if (hours > latest) {
                latest = hours;
                block = worn;
            }
        }
        return block;
    }

    private void leaveAloneInTrial(int person) {
        trial.take(now);
        for (int other = 0; other < trial.people; other++) {
            if (other != person) {
                trial.away[other] = true;
            }
        }
    }

    /** GETS as a number that is greater than all others where it is NEVER. */
    private static int orTooLate(int gets) {
        return gets == NEVER ? ASKED_LIMIT + 1 : gets;
    }

    private boolean trialGoesAsSeen() {
        int last = 0;
        for (int row = 0; row < seen.count; row++) {
            last = Math.max(last, seen.part(row, 1));
        }
        for (int hours = 0; hours <= last; hours++) {
            if (hours > 0) {
                trial.goHour();
            }
            if (!trialIsAsSeen(hours)) {
                return false;
            }
        }
        return true;
    }

    private boolean trialIsAsSeen(int hours) {
        for (int row = 0; row < seen.count; row++) {
            if (seen.part(row, 1) == hours && trial.cell[seen.part(row, 0)] != seen.part(row, 2)) {
                return false;
            }
        }
        return true;
    }

    private void carryOutInTrial(int what, int n) {
        switch (what) {
            case PLAN_HOUR:
                trial.goHour();
                break;
            case PLAN_WEAR:
                trial.tread(n, MORE_WEAR);
                break;
            default:
                trial.away[n] = what == PLAN_AWAY;
                break;
        }
    }

    /** CELLS, PEOPLE, HOUR and the STATUTE that holds: what an HOUR changes and what it goes by. */
    private static final class Hall {
        final Walker[] kinds;
        Statute law;
        int hour;
        final int[] wear = new int[CELLS];
        int people;
        final int[] kind = new int[PEOPLE_LIMIT];
        final int[] v = new int[PEOPLE_LIMIT];
        final int[] cell = new int[PEOPLE_LIMIT];
        final boolean[] away = new boolean[PEOPLE_LIMIT];
        final int[] rows = new int[PEOPLE_LIMIT * ROW_PARTS];
        // The numbers that a TEST's letters stand for, in the order of LETTERS.
        final int[] facts = new int[6];

        Hall(Walker[] kinds, Statute law) {
            this.kinds = kinds;
            this.law = law;
            for (int c = 0; c < CELLS; c++) {
                wear[c] = WEAR_AT_FIRST;
            }
        }

        void take(Hall other) {
            law = other.law;
            hour = other.hour;
            people = other.people;
            System.arraycopy(other.wear, 0, wear, 0, CELLS);
            System.arraycopy(other.kind, 0, kind, 0, PEOPLE_LIMIT);
            System.arraycopy(other.v, 0, v, 0, PEOPLE_LIMIT);
            System.arraycopy(other.cell, 0, cell, 0, PEOPLE_LIMIT);
            System.arraycopy(other.away, 0, away, 0, PEOPLE_LIMIT);
            System.arraycopy(other.rows, 0, rows, 0, PEOPLE_LIMIT * ROW_PARTS);
        }

        int welcome(int itsKind, int itsV, int itsCell) {
            if (people >= PEOPLE_LIMIT) {
                return FULL;
            }
            // Nobody yet to come is AWAY or has a ROW: take() clears what undo() takes back.
            int person = people;
            kind[person] = itsKind;
            v[person] = itsV;
            cell[person] = itsCell;
            people++;
            return person;
        }

        Walker kindOf(int person) {
            return kinds[kind[person]];
        }

        boolean isBald(int c) {
            return wear[c] >= law.bald;
        }

        int countBald() {
            int many = 0;
            for (int c = 0; c < CELLS; c++) {
                if (isBald(c)) {
                    many++;
                }
            }
            return many;
        }

        int wearOfAll() {
            int all = 0;
            for (int c = 0; c < CELLS; c++) {
                all += wear[c];
            }
            return all;
        }

        /** BEATING: no WEAR can be below 0, so nothing helps where 0 is BALD. */
        int beating() {
            if (law.bald == 0) {
                return NEVER;
            }
            int most = 0;
            for (int c = 0; c < CELLS; c++) {
                most = Math.max(most, wear[c]);
            }
            return Math.max(0, most - law.bald + 1);
        }

        void tread(int c, int n) {
            wear[c] = Math.min(WEAR_LIMIT, wear[c] + n);
        }

        int pullOn(int person, int c) {
            facts[0] = person;
            facts[1] = kind[person];
            facts[2] = v[person];
            facts[3] = c;
            facts[4] = wear[c] / 10;
            facts[5] = hour % 10;
            return kindOf(person).pullBy(wear[c] + law.drawsBy(facts), this, person, c);
        }

        /** Where THE LAW sends one: its own CELL, if it stays. */
        int sends(int person) {
            int best = cell[person];
            int bestPull = 0;
            boolean stays = true;
            for (int side = 0; side < SIDES; side++) {
                int next = nextTo(cell[person], side);
                if (next == NONE || isBald(next)) {
                    continue;
                }
                int pull = pullOn(person, next);
                if (stays || pull > bestPull) {
                    stays = false;
                    best = next;
                    bestPull = pull;
                }
            }
            return best;
        }

        void goHour() {
            for (int person = 0; person < people; person++) {
                if (!away[person]) {
                    cell[person] = sends(person);
                    tread(cell[person], kindOf(person).tread());
                }
            }
            hour++;
            if (hour % 10 == 0) {
                for (int c = 0; c < CELLS; c++) {
                    wear[c] = Math.max(0, wear[c] - 1);
                }
            }
        }

        void goHours(int n) {
            for (int hours = 0; hours < n; hours++) {
                goHour();
            }
        }

        /** GETS: lets the HOURS go until one is there. */
        int hoursTo(int person, int to) {
            for (int hours = 0; hours <= ASKED_LIMIT; hours++) {
                if (cell[person] == to) {
                    return hours;
                }
                goHour();
            }
            return NEVER;
        }

        /** STEPS: the CELLS reached spread, as bits, to those next to them. */
        int stepsTo(int person, int to) {
            int open = 0;
            for (int c = 0; c < CELLS; c++) {
                if (!isBald(c)) {
                    open |= 1 << c;
                }
            }
            int reached = 1 << cell[person];
            for (int steps = 0; steps < CELLS; steps++) {
                if ((reached >> to & 1) == 1) {
                    return steps;
                }
                int upDown = reached >> SIDE | reached << SIDE;
                int leftRight = (reached & ~LEFT_COLUMN) >> 1 | (reached & ~RIGHT_COLUMN) << 1;
                reached |= (upDown | leftRight) & open;
            }
            return NEVER;
        }
    }

    /** What is told by hand, row by row; a row has three numbers, of which some use two. */
    private static final class Rows {
        final int limit;
        final int[] parts;
        int count;

        Rows(int limit) {
            this.limit = limit;
            parts = new int[limit * 3];
        }

        int clear() {
            count = 0;
            return 0;
        }

        int add(int first, int second, int third) {
            if (count >= limit) {
                return FULL;
            }
            parts[count * 3] = first;
            parts[count * 3 + 1] = second;
            parts[count * 3 + 2] = third;
            count++;
            return count;
        }

        int part(int row, int part) {
            return parts[row * 3 + part];
        }

        void take(Rows other) {
            count = other.count;
            System.arraycopy(other.parts, 0, parts, 0, parts.length);
        }
    }

    /**
     * A text read once into steps that are then done, from the first on, for each PULL: TESTs put whether they hold
     * on a stack of bits, NOT, AND and OR work on its top, DRAW and BAR end a CLAUSE.
     */
    private static final class Statute {
        final int[] steps = new int[TEXT_LIMIT];
        int length;
        int bald = BALD_WITHOUT;

        // While it is read: the text, the place of the next byte (of the FAULT in the end), the byte (-1: the end).
        byte[] text;
        int textLength;
        int at;
        int next;

        boolean readFrom(byte[] newText, int newLength) {
            text = newText;
            textLength = newLength;
            length = 0;
            bald = BALD_WITHOUT;
            goTo(0);
            for (int clauses = 1; clauses <= CLAUSE_LIMIT; clauses++) {
                if (!readClause()) {
                    return false;
                }
                if (next == -1) {
                    return true;
                }
                if (next != ';' || clauses == CLAUSE_LIMIT) {
                    return false;
                }
                goTo(at + 1);
            }
            return false;
        }

        private void goTo(int place) {
            at = place;
            next = place >= 0 && place < textLength ? text[place] : -1;
        }

        /** Goes on behind a word, or to the first byte that is not the word's. */
        private boolean readWord(String word) {
            for (int i = 0; i < word.length(); i++) {
                if (next != word.charAt(i)) {
                    return false;
                }
                goTo(at + 1);
            }
            return true;
        }

        private boolean readClause() {
            int step = DRAW;
            if (next == 'd') {
                if (!readWord("draw ")) {
                    return false;
                }
            } else {
                // Two words begin so: which one it is shows behind that.
                if (!readWord("ba")) {
                    return false;
                }
                step = BAR;
                if (next != 'r') {
                    return readBald();
                }
                if (!readWord("r ")) {
                    return false;
                }
            }
            int n = readNumber();
            if (n == NONE || !readWord(" ") || !readEither(0)) {
                return false;
            }
            addStep(step, n);
            return true;
        }

        private boolean readBald() {
            if (!readWord("ld ")) {
                return false;
            }
            int n = readNumber();
            if (n == NONE) {
                return false;
            }
            bald = n;
            return true;
        }

        /** One digit or two; NONE if there is none. */
        private int readNumber() {
            if (next < '0' || next > '9') {
                return NONE;
            }
            int n = next - '0';
            goTo(at + 1);
            if (next >= '0' && next <= '9') {
                n = n * 10 + next - '0';
                goTo(at + 1);
            }
            return n;
        }

        /** An E: each & joins its two as soon as both are read, each | not before all & behind it are. */
        private boolean readEither(int depth) {
            boolean andWaits = false;
            boolean orWaits = false;
            for (int factors = 0; factors < TEXT_LIMIT; factors++) {
                if (!readFactor(depth)) {
                    return false;
                }
                if (andWaits) {
                    addStep(AND, 0);
                }
                andWaits = next == '&';
                if (!andWaits) {
                    if (orWaits) {
                        addStep(OR, 0);
                    }
                    orWaits = next == '|';
                    if (!orWaits) {
                        return true;
                    }
                }
                goTo(at + 1);
            }
            return false;
        }

        private boolean readFactor(int depth) {
            if (next != '!' && next != '(') {
                return readTest();
            }
            if (depth >= NEST_LIMIT) {
                return false;
            }
            boolean isNot = next == '!';
            goTo(at + 1);
            if (!isNot) {
                return readEither(depth + 1) && readWord(")");
            }
            if (!readFactor(depth + 1)) {
                return false;
            }
            addStep(NOT, 0);
            return true;
        }

        private boolean readTest() {
            int letter = next < 0 ? NONE : LETTERS.indexOf((char) next);
            if (letter < 0) {
                return false;
            }
            goTo(at + 1);
            int sign = next < 0 ? NONE : SIGNS_OF_TESTS.indexOf((char) next);
            if (sign < 0) {
                return false;
            }
            goTo(at + 1);
            int n = readNumber();
            if (n == NONE) {
                return false;
            }
            addStep(TEST, letter << 9 | sign << 7 | n);
            return true;
        }

        private void addStep(int step, int with) {
            if (length < TEXT_LIMIT) {
                steps[length] = step << 12 | with;
                length++;
            }
        }

        /** The n of all draw whose E holds, less those of all bar. */
        int drawsBy(int[] facts) {
            int sum = 0;
            int stack = 0;
            for (int i = 0; i < length; i++) {
                int top = stack & 1;
                int with = steps[i] & 0xFFF;
                switch (steps[i] >> 12) {
                    case TEST:
                        stack = stack << 1 | holds(with, facts);
                        break;
                    case NOT:
                        stack ^= 1;
                        break;
                    case AND:
                        stack = stack >> 1 & (~1 | top);
                        break;
                    case OR:
                        stack = stack >> 1 | top;
                        break;
                    case DRAW:
                        sum += top * with;
                        stack = 0;
                        break;
                    default:
                        sum -= top * with;
                        stack = 0;
                        break;
                }
            }
            return sum;
        }

        /** 1 if a TEST holds, 0 if not. */
        private static int holds(int test, int[] facts) {
            int fact = facts[test >> 9];
            int n = test & 0x7F;
            boolean is;
            switch (test >> 7 & 3) {
                case 0:
                    is = fact < n;
                    break;
                case 1:
                    is = fact == n;
                    break;
                default:
                    is = fact > n;
                    break;
            }
            return is ? 1 : 0;
        }
    }

    /** One act() under way: whose it is, and THE TRACE. */
    private static final class Deed {
        int number;
        int v;
        int bodies;
        final int[] trace = new int[TRACE_LIMIT];

        void begin(int body) {
            if (bodies < TRACE_LIMIT) {
                trace[bodies] = body;
            }
            bodies++;
        }
    }

    /** The KINDS are classes, so that Java's own super is the BODIES' super; one object of each serves all. */
    private static class Walker {
        int tread() {
            return 2;
        }

        int pullBy(int sum, Hall hall, int person, int cell) {
            return sum;
        }

        int bows(Deed deed, int x) {
            deed.begin(10);
            return x + deed.number;
        }

        int walks(Deed deed, int x) {
            deed.begin(11);
            return bows(deed, x) - deed.v;
        }

        int tells(Deed deed, int x) {
            deed.begin(12);
            return walks(deed, x) * 2;
        }
    }

    private static class Train extends Walker {
        int tread() {
            return 3;
        }

        int walks(Deed deed, int x) {
            deed.begin(20);
            return super.walks(deed, x) ^ 6;
        }
    }

    private static class Socks extends Walker {
        int tread() {
            return 1;
        }

        int pullBy(int sum, Hall hall, int person, int cell) {
            return -sum;
        }

        int bows(Deed deed, int x) {
            deed.begin(30);
            return super.bows(deed, x * 3);
        }
    }

    private static class Kneeler extends Walker {
        int tread() {
            return 6;
        }

        int pullBy(int sum, Hall hall, int person, int cell) {
            return hall.hour % 2 == 1 ? sum / 2 : sum;
        }

        int tells(Deed deed, int x) {
            deed.begin(40);
            return super.tells(deed, x) + walks(deed, 1);
        }
    }

    private static final class Guard extends Train {
        int pullBy(int sum, Hall hall, int person, int cell) {
            return cell % 2 == 0 ? sum + hall.v[person] : sum;
        }

        int bows(Deed deed, int x) {
            deed.begin(50);
            return -super.bows(deed, x);
        }

        int walks(Deed deed, int x) {
            deed.begin(51);
            return super.walks(deed, x + 1);
        }
    }

    private static final class Child extends Socks {
        int tread() {
            return 2;
        }

        int pullBy(int sum, Hall hall, int person, int cell) {
            int asSocks = super.pullBy(sum, hall, person, cell);
            return cell == nextTo(hall.cell[person], 1) ? asSocks + 20 : asSocks;
        }

        int tells(Deed deed, int x) {
            deed.begin(60);
            return super.tells(deed, x - deed.number);
        }
    }

    private static final class Told extends Kneeler {
        int pullBy(int sum, Hall hall, int person, int cell) {
            int ofRow = hall.rows[person * ROW_PARTS + hall.hour % ROW_PARTS];
            return super.pullBy(sum, hall, person, cell) + ofRow;
        }

        int walks(Deed deed, int x) {
            deed.begin(70);
            return super.walks(deed, x) + super.bows(deed, 2);
        }

        int bows(Deed deed, int x) {
            deed.begin(71);
            return super.bows(deed, x) ^ deed.v;
        }
    }
}
