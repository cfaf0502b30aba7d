/** A train that runs on gossip, as ../shared/DOC.md promises it. */
public final class GossipTrain {
    public static final int NONE = -1, BAD = -2, STATE = -3, FULL = -4;
    public static final long NO = Long.MIN_VALUE;

    private static final int NOT_AT_ALL = -5, NONE_BELOW = -10001;
    private static final int NOTHING = -11, CAST = -12, PLACE = -13, SIZE = -14;

    private static final int TALES = 8, PASSENGERS = 6, CARRIAGES = 4, PARTS = 4;
    private static final int MOST_HEAT = 9, MOST_OFTEN = 99, MOST_DIGIT = 9, ALL_TALES = 255;
    private static final int MOST_GLOW_SEEN = 99;
    private static final int MOST_SEEN = 5, MOST_PLAN = 10, MOST_BOOK = 8;
    private static final int MOST_MINUTES = 30, MOST_TRIED = 10, STATIONS = 100, STATION = 50;
    private static final int HELD = 9999, MOST_STEPS = 20, FIRST_HEAT = 3, FIRST_SLOPE = 5;

    private static final int MOST_SIGNS = 100, LAST_SIGN = 127, MOST_BRANCHES = 6;
    private static final int MOST_CLAUSES = 10, MOST_WITHIN = 4;
    private static final String LETTERS = "pkvtom";
    private static final int LETTER_COUNT = 6;
    private static final int AND = 6, OR = 7, NOT = 8, WARM = 9, SHAME = 10;

    private static final int KINDS = 7;
    private static final int GIRL = 1, GUARD = 2, SCANDAL = 3, TRAPPIST = 4, VICAR = 5, TOLD = 6;
    private static final int[] KIND_ABOVE = {-1, 0, 0, 0, GIRL, GUARD, SCANDAL};

    private static final int ACTS = 3, HUMS = 0, LEANS = 1, TELLS = 2;
    private static final int MOST_TRACE = 20, DEEPEST_ACT = 20;
    private static final int[] BODIES = {
        10, 11, 12,
        0, 20, 0,
        30, 0, 0,
        0, 0, 40,
        50, 51, 0,
        0, 0, 60,
        71, 70, 0,
    };

    private static final int TAPES = 6, MOST_ITEMS = 60, SORTS = 5, EMPTY = -1;
    private static final int BYTES = 0, SHORTS = 1, INTS = 2, BOOLEANS = 4;
    private static final int RAN_OUT = 100;

    private final Train now = new Train();
    private final Train trial = new Train();
    private final Train imageTrain = new Train();
    private final Notes notes = new Notes();
    private final Notes imageNotes = new Notes();
    private boolean hasImage = false;
    private final Scribe scribe = new Scribe();
    private int branches = 0;
    private final Stage stage = new Stage();
    private final Tape[] tapes = new Tape[TAPES];

    public GossipTrain() {
        for (int k = 0; k < TAPES; k++) {
            tapes[k] = new Tape();
        }
    }

    // ---- passengers, tales, branches

    public int one(int kind, int v, int carriage, int knows) {
        if (!isWithin(kind, KINDS) || !isWithin(carriage, CARRIAGES)) {
            return NONE;
        }
        if (!isUpTo(v, MOST_DIGIT) || !isUpTo(knows, ALL_TALES)) {
            return BAD;
        }
        return now.board(kind, v, carriage, knows);
    }

    public int of(int person, int what) {
        if (!isPerson(person)) {
            return NONE_BELOW;
        }
        switch (what) {
            case 0: return now.kinds[person];
            case 1: return now.vs[person];
            case 2: return now.carriages[person];
            case 3: return now.known[person];
            case 4: return asNumber(now.off[person]);
            case 5: return now.favourite(person);
            default: break;
        }
        int tale = tenLess(what, 1);
        return isTale(tale) ? now.glow(person, tale) : NONE_BELOW;
    }

    public int seat(int person, int carriage) {
        if (!isPerson(person) || !isWithin(carriage, CARRIAGES)) {
            return NONE;
        }
        int was = now.carriages[person];
        now.carriages[person] = carriage;
        return was;
    }

    public int know(int person, int tales) {
        if (!isPerson(person)) {
            return NONE;
        }
        if (!isUpTo(tales, ALL_TALES)) {
            return BAD;
        }
        int was = now.known[person];
        now.known[person] = tales;
        return was;
    }

    public int leave(int person, boolean is) {
        if (!isPerson(person)) {
            return NONE;
        }
        boolean was = now.off[person];
        now.off[person] = is;
        return asNumber(was);
    }

    public int set(int tale, int what, int n) {
        if (!isTale(tale) || !isWithin(what, 2)) {
            return NONE;
        }
        if (!isUpTo(n, what == 0 ? MOST_HEAT : MOST_OFTEN)) {
            return BAD;
        }
        int[] row = what == 0 ? now.heat : now.often;
        int was = row[tale];
        row[tale] = n;
        return was;
    }

    public int row(int person, int part, int n) {
        if (!isPerson(person) || !isWithin(part, PARTS)) {
            return NONE;
        }
        if (!isUpTo(n, MOST_DIGIT)) {
            return BAD;
        }
        if (now.kinds[person] != TOLD) {
            return STATE;
        }
        int at = person * PARTS + part;
        int was = now.rows[at];
        now.rows[at] = n;
        return was;
    }

    public int feed(int sign) {
        if (!isUpTo(sign, LAST_SIGN)) {
            return BAD;
        }
        return scribe.write(sign);
    }

    public int branch() {
        if (branches >= MOST_BRANCHES) {
            return FULL;
        }
        boolean isBranch = scribe.readText();
        scribe.length = 0;
        if (!isBranch) {
            return -10 - scribe.at;
        }
        now.held = scribe.handOver();
        branches++;
        return branches - 1;
    }

    public int told(int what) {
        switch (what) {
            case 0: return now.minute;
            case 1: return now.held.slope;
            case 2: return now.steam;
            case 3: return now.place;
            case 4: return now.ash();
            default: break;
        }
        if (isTale(tenLess(what, 1))) {
            return now.heat[tenLess(what, 1)];
        }
        if (isTale(tenLess(what, 2))) {
            return now.often[tenLess(what, 2)];
        }
        return isTale(tenLess(what, 3)) ? now.spread(tenLess(what, 3)) : NONE;
    }

    // ---- minutes

    public int pass(int n) {
        if (!isUpTo(n, MOST_MINUTES)) {
            return BAD;
        }
        if (now.minute + n > HELD) {
            return STATE;
        }
        now.ride(n);
        return now.minute;
    }

    public int on(int n, int what) {
        int person = tenLess(what, 1);
        int tale = tenLess(what, 2);
        if (!isWithin(what, 2) && !isPerson(person) && !isTale(tale)) {
            return NONE;
        }
        if (!isUpTo(n, MOST_MINUTES)) {
            return BAD;
        }
        trial.becomeLike(now);
        trial.ride(n);
        if (isPerson(person)) {
            return trial.known[person];
        }
        if (isTale(tale)) {
            return trial.often[tale];
        }
        return what == 0 ? trial.steam : trial.place;
    }

    public int gets(int station) {
        if (!isWithin(station, STATIONS)) {
            return BAD;
        }
        trial.becomeLike(now);
        for (int n = 0; n <= MOST_MINUTES; n++) {
            if (trial.place >= station * STATION) {
                return n;
            }
            trial.ride(1);
        }
        return NOT_AT_ALL;
    }

    public int hears(int person, int tale) {
        if (!isPerson(person) || !isTale(tale)) {
            return NONE;
        }
        trial.becomeLike(now);
        for (int n = 0; n <= MOST_MINUTES; n++) {
            if (trial.knowsOf(person, tale)) {
                return n;
            }
            trial.ride(1);
        }
        return NOT_AT_ALL;
    }

    // ---- seats

    public int best(int person, int n) {
        if (!isPerson(person)) {
            return NONE;
        }
        if (n < 1 || n > MOST_TRIED) {
            return BAD;
        }
        int found = 0;
        int farthest = -1;
        int mostSteam = -1;
        for (int carriage = 0; carriage < CARRIAGES; carriage++) {
            trial.becomeLike(now);
            trial.carriages[person] = carriage;
            trial.ride(n);
            if (trial.place > farthest || trial.place == farthest && trial.steam > mostSteam) {
                found = carriage;
                farthest = trial.place;
                mostSteam = trial.steam;
            }
        }
        return found;
    }

    public int swap(int n) {
        if (n < 1 || n > MOST_TRIED) {
            return BAD;
        }
        int found = NOT_AT_ALL;
        trial.becomeLike(now);
        trial.ride(n);
        int farthest = trial.place;
        for (int lesser = 0; lesser < now.passengers; lesser++) {
            for (int greater = lesser + 1; greater < now.passengers; greater++) {
                trial.becomeLike(now);
                trial.carriages[lesser] = now.carriages[greater];
                trial.carriages[greater] = now.carriages[lesser];
                trial.ride(n);
                if (trial.place > farthest) {
                    found = 10 * lesser + greater;
                    farthest = trial.place;
                }
            }
        }
        return found;
    }

    // ---- seen, odds

    public int see(int person, int tale, int glow) {
        if (person == -1) {
            return notes.seen.clear();
        }
        if (!isPerson(person) || !isTale(tale)) {
            return NONE;
        }
        if (!isUpTo(glow, MOST_GLOW_SEEN)) {
            return BAD;
        }
        return notes.seen.append(person, tale, glow);
    }

    public int can(int what, int i, int part) {
        if (!isWithin(what, 2) || !isWithin(part, 2)) {
            return NONE;
        }
        if (what == 0 ? !isPerson(i) : !isTale(i)) {
            return NONE;
        }
        trial.becomeLike(now);
        int[] asked = what == 0 ? trial.vs : trial.often;
        int last = what == 0 ? MOST_DIGIT : MOST_OFTEN;
        int many = 0;
        int least = NOT_AT_ALL;
        for (int n = last; n >= 0; n--) {
            asked[i] = n;
            if (isAllSeenSo(what, i)) {
                many++;
                least = n;
            }
        }
        return part == 0 ? many : least;
    }

    public long odds(int person, int n, int part) {
        if (!isPerson(person) || !isUpTo(n, MOST_TRIED) || !isWithin(part, 2)) {
            return NO;
        }
        trial.becomeLike(now);
        trial.ride(n);
        int place = trial.place;
        int farther = 0;
        for (int tale = 0; tale < TALES; tale++) {
            trial.becomeLike(now);
            trial.known[person] |= 1 << tale;
            trial.ride(n);
            if (trial.place > place) {
                farther++;
            }
        }
        return ofFraction(farther, TALES, part);
    }

    public long mean(int n, int part) {
        if (!isUpTo(n, MOST_MINUTES) || !isWithin(part, 2) || now.passengers < 1) {
            return NO;
        }
        trial.becomeLike(now);
        trial.ride(n);
        int together = 0;
        for (int person = 0; person < trial.passengers; person++) {
            together += Integer.bitCount(trial.known[person]);
        }
        return ofFraction(together, trial.passengers, part);
    }

    // ---- plans, books

    public int plan(int what, int n) {
        if (what == -1) {
            return notes.plan.clear();
        }
        int person = n;
        int carriage = 0;
        if (what == 3 && n >= 0) {
            person = n / 10;
            carriage = n % 10;
        }
        if (!isWithin(what, 4) || what != 0 && !isPerson(person) || !isWithin(carriage, CARRIAGES)) {
            return NONE;
        }
        return notes.plan.append(what, person, carriage);
    }

    public int ends(int what) {
        if (!isWithin(what, 2)) {
            return NONE;
        }
        trial.becomeLike(now);
        for (int k = 0; k < notes.plan.size; k++) {
            doPlanned(notes.plan.first[k], notes.plan.second[k], notes.plan.third[k]);
        }
        return what == 0 ? trial.place : trial.steam;
    }

    public int book(int person, int knows) {
        if (person == -1) {
            return notes.book.clear();
        }
        if (!isPerson(person)) {
            return NONE;
        }
        if (!isUpTo(knows, ALL_TALES)) {
            return BAD;
        }
        return notes.book.append(person, knows, 0);
    }

    public int looked() {
        for (int k = 0; k < notes.book.size; k++) {
            int person = notes.book.first[k];
            if (!isPerson(person) || now.known[person] != notes.book.second[k]) {
                return k;
            }
        }
        return NOT_AT_ALL;
    }

    // ---- judging, the image, acts, tapes

    public int judge(int tape, int i) {
        Tape row = tapeAt(tape);
        if (row == null) {
            return NONE;
        }
        if (row.sort != EMPTY && row.sort != SHORTS) {
            return CAST;
        }
        if (now.passengers == 0) {
            return NOT_AT_ALL;
        }
        int there = row.countFrom(i);
        for (int person = 0; person < now.passengers; person++) {
            if (person >= there) {
                return RAN_OUT + person;
            }
            if (row.items[i + person] != now.known[person]) {
                return person;
            }
        }
        return NOT_AT_ALL;
    }

    public int image() {
        imageTrain.becomeLike(now);
        imageNotes.becomeLike(notes);
        hasImage = true;
        return now.passengers;
    }

    public int undo() {
        if (!hasImage) {
            return STATE;
        }
        now.becomeLike(imageTrain);
        notes.becomeLike(imageNotes);
        return now.passengers;
    }

    public int act(int person, int act, int x) {
        stage.ran = 0;
        if (!isPerson(person) || !isWithin(act, ACTS)) {
            return 0;
        }
        stage.number = person;
        stage.kind = now.kinds[person];
        stage.v = now.vs[person];
        return stage.play(stage.kind, act, x, 0);
    }

    public int trace(int i) {
        return isWithin(i, Math.min(stage.ran, MOST_TRACE)) ? stage.bodies[i] : NONE;
    }

    public int taken(int person, int k) {
        if (!isWithin(k, KINDS)) {
            return BAD;
        }
        if (!isPerson(person)) {
            return NOTHING;
        }
        int kind = now.kinds[person];
        return isKindUnder(kind, k) ? kind : CAST;
    }

    public int count(int what) {
        switch (what) {
            case 0: return now.passengers;
            case 1: return branches;
            case 2: return notes.seen.size;
            case 3: return notes.plan.size;
            case 4: return notes.book.size;
            case 5: return scribe.length;
            case 6: return stage.ran;
            default: return BAD;
        }
    }

    public int tape(int tape, int sort, int n) {
        Tape row = tapeAt(tape);
        if (row == null) {
            return NONE;
        }
        if (sort == EMPTY) {
            return row.become(EMPTY, 0);
        }
        if (!isWithin(sort, SORTS) || n > MOST_ITEMS) {
            return BAD;
        }
        return n < 0 ? SIZE : row.become(sort, n);
    }

    public int item(int tape, int i, long v) {
        Tape row = tapeAt(tape);
        if (row == null) {
            return NONE;
        }
        if (row.sort == EMPTY) {
            return NOTHING;
        }
        if (!isWithin(i, row.size)) {
            return PLACE;
        }
        row.items[i] = row.lowestBits(v);
        return 1;
    }

    public long read(int tape, int i) {
        Tape row = tapeAt(tape);
        return row == null || !isWithin(i, row.size) ? NO : row.items[i];
    }

    public int shift(int tape, int i, int other, int j, int n) {
        Tape from = tapeAt(tape);
        Tape to = tapeAt(other);
        if (from == null || to == null) {
            return NONE;
        }
        if (from.sort == EMPTY || to.sort == EMPTY) {
            return NOTHING;
        }
        if (from.sort != to.sort) {
            return CAST;
        }
        if (n < 0 || from.countFrom(i) < n || to.countFrom(j) < n) {
            return PLACE;
        }
        System.arraycopy(from.items, i, to.items, j, n);
        return n;
    }

    private boolean isPerson(int person) {
        return isWithin(person, now.passengers);
    }

    private static boolean isTale(int tale) {
        return isWithin(tale, TALES);
    }

    private static boolean isWithin(int n, int size) {
        return n >= 0 && n < size;
    }

    private static boolean isUpTo(int n, int most) {
        return n >= 0 && n <= most;
    }

    private static int asNumber(boolean is) {
        return is ? 1 : 0;
    }

    /** Answers -1 below the tens, as a number near the lowest int would wrap to a good one. */
    private static int tenLess(int what, int tens) {
        return what < 10 * tens ? -1 : what - 10 * tens;
    }

    private static long ofFraction(int above, int below, int part) {
        int asked = part == 0 ? above : below;
        for (int by = below; by > 1; by--) {
            if (above % by == 0 && below % by == 0) {
                return asked / by;
            }
        }
        return asked;
    }

    private static boolean isKindUnder(int kind, int above) {
        int at = kind;
        for (int k = 0; k < KINDS && isWithin(at, KINDS); k++) {
            if (at == above) {
                return true;
            }
            at = KIND_ABOVE[at];
        }
        return false;
    }

    private boolean isAllSeenSo(int what, int i) {
        Rows seen = notes.seen;
        for (int k = 0; k < seen.size; k++) {
            int person = seen.first[k];
            int tale = seen.second[k];
            if (!isPerson(person) || (what == 0 ? person : tale) != i) {
                continue;
            }
            if (Math.max(0, trial.glow(person, tale)) != seen.third[k]) {
                return false;
            }
        }
        return true;
    }

    private void doPlanned(int what, int person, int carriage) {
        if (what == 0) {
            trial.ride(1);
        } else if (isPerson(person) && what == 3) {
            trial.carriages[person] = carriage;
        } else if (isPerson(person)) {
            trial.off[person] = what == 1;
        }
    }

    private Tape tapeAt(int tape) {
        return isWithin(tape, TAPES) ? tapes[tape] : null;
    }

    /** How all is: one object lasts, one is for what is only tried, one is the image's. */
    private static final class Train {
        private final int[] heat = new int[TALES];
        private final int[] often = new int[TALES];
        private final int[] kinds = new int[PASSENGERS];
        private final int[] vs = new int[PASSENGERS];
        private final int[] carriages = new int[PASSENGERS];
        private final int[] known = new int[PASSENGERS];
        private final boolean[] off = new boolean[PASSENGERS];
        private final int[] rows = new int[PASSENGERS * PARTS];
        private final int[] letters = new int[LETTER_COUNT];
        private int passengers = 0;
        private int steam = 0;
        private int place = 0;
        private int minute = 0;
        private Branch held = new Branch();

        private Train() {
            for (int tale = 0; tale < TALES; tale++) {
                heat[tale] = FIRST_HEAT;
            }
        }

        /** Copies what stands behind the passengers too, so that whoever comes after an undo starts anew. */
        private void becomeLike(Train other) {
            System.arraycopy(other.heat, 0, heat, 0, TALES);
            System.arraycopy(other.often, 0, often, 0, TALES);
            System.arraycopy(other.kinds, 0, kinds, 0, PASSENGERS);
            System.arraycopy(other.vs, 0, vs, 0, PASSENGERS);
            System.arraycopy(other.carriages, 0, carriages, 0, PASSENGERS);
            System.arraycopy(other.known, 0, known, 0, PASSENGERS);
            System.arraycopy(other.rows, 0, rows, 0, PASSENGERS * PARTS);
            for (int person = 0; person < PASSENGERS; person++) {
                off[person] = other.off[person];
            }
            passengers = other.passengers;
            steam = other.steam;
            place = other.place;
            minute = other.minute;
            held = other.held;
        }

        private int board(int kind, int v, int carriage, int knows) {
            int person = passengers;
            if (person >= PASSENGERS) {
                return FULL;
            }
            kinds[person] = kind;
            vs[person] = v;
            carriages[person] = carriage;
            known[person] = knows;
            passengers++;
            return person;
        }

        private boolean knowsOf(int person, int tale) {
            return (known[person] >> tale & 1) != 0;
        }

        private int glow(int person, int tale) {
            int sum = sum(person, tale);
            switch (kinds[person]) {
                case GIRL: return sum + vs[person];
                case GUARD: return sum / 2;
                case SCANDAL: return twiceIfFresh(sum, tale);
                case TRAPPIST: return minute % 4 == 0 ? sum + vs[person] : 0;
                case VICAR: return sum / 2 - vs[person];
                case TOLD: return twiceIfFresh(sum, tale) + rows[person * PARTS + tale % PARTS];
                default: return sum;
            }
        }

        private int twiceIfFresh(int sum, int tale) {
            return often[tale] == 0 ? sum * 2 : sum;
        }

        /** Puts what a test may ask for in the order of LETTERS, so that a test is only an index and a number. */
        private int sum(int person, int tale) {
            letters[0] = person;
            letters[1] = kinds[person];
            letters[2] = vs[person];
            letters[3] = tale;
            letters[4] = often[tale];
            letters[5] = minute % 10;
            return heat[tale] * 2 - often[tale] + held.warmth(letters);
        }

        private int favourite(int person) {
            int found = NOT_AT_ALL;
            int most = 0;
            for (int tale = 0; tale < TALES; tale++) {
                int burns = knowsOf(person, tale) ? glow(person, tale) : 0;
                if (burns > most) {
                    found = tale;
                    most = burns;
                }
            }
            return found;
        }

        private int ash() {
            int tales = ALL_TALES;
            for (int person = 0; person < passengers; person++) {
                for (int tale = 0; tale < TALES; tale++) {
                    if (!off[person] && knowsOf(person, tale) && glow(person, tale) > 0) {
                        tales &= ~(1 << tale);
                    }
                }
            }
            return tales;
        }

        private int spread(int tale) {
            int reached = 0;
            for (int person = 0; person < passengers; person++) {
                if (!knowsOf(person, tale)) {
                    continue;
                }
                reached |= 1 << person;
                if (!off[person]) {
                    reached |= hearersOf(person);
                }
            }
            return reached;
        }

        private int hearersOf(int teller) {
            int hearers = 0;
            for (int person = 0; person < passengers; person++) {
                if (!off[person] && carriages[person] == carriages[teller]) {
                    hearers |= 1 << person;
                }
            }
            return hearers;
        }

        private void ride(int minutes) {
            for (int n = 0; n < minutes; n++) {
                for (int person = 0; person < passengers; person++) {
                    int tale = off[person] ? NOT_AT_ALL : favourite(person);
                    if (tale >= 0) {
                        tell(person, tale);
                    }
                }
                roll();
                minute++;
            }
        }

        private void tell(int teller, int tale) {
            steam += glow(teller, tale);
            often[tale] = Math.min(often[tale] + 1, MOST_OFTEN);
            int hearers = hearersOf(teller);
            for (int person = 0; person < passengers; person++) {
                if ((hearers >> person & 1) != 0) {
                    known[person] |= 1 << tale;
                }
            }
        }

        private void roll() {
            int slope = Math.max(held.slope, 1);
            int steps = Math.min(steam / slope, MOST_STEPS);
            place = Math.min(place + steps, HELD);
            steam = Math.min(steam - steps * slope, HELD);
        }
    }

    /** Clauses as they were read; without any it stands for no branch at all, so that none is null. */
    private static final class Branch {
        private final int[] code = new int[MOST_SIGNS];
        private int size = 0;
        private int slope = FIRST_SLOPE;

        private void clear() {
            size = 0;
            slope = FIRST_SLOPE;
        }

        private void add(int step, int sign, int n) {
            if (size < MOST_SIGNS) {
                code[size] = step << 16 | sign << 8 | n;
                size++;
            }
        }

        /** The code stands operands first, so bits pushed on an int do and no call needs to nest. */
        private int warmth(int[] letters) {
            int sum = 0;
            int bits = 0;
            for (int k = 0; k < size; k++) {
                int n = code[k] & 255;
                switch (code[k] >> 16) {
                    case AND: bits = bits >> 1 & (bits | ~1); break;
                    case OR: bits = bits >> 1 | bits & 1; break;
                    case NOT: bits ^= 1; break;
                    case WARM: sum += n * (bits & 1); bits = 0; break;
                    case SHAME: sum -= n * (bits & 1); bits = 0; break;
                    default: bits = bits << 1 | bitOfTest(code[k], letters); break;
                }
            }
            return sum;
        }

        private static int bitOfTest(int test, int[] letters) {
            int letter = test >> 16;
            if (letter < 0 || letter >= letters.length) {
                return 0;
            }
            int value = letters[letter];
            int n = test & 255;
            switch (test >> 8 & 255) {
                case '<': return value < n ? 1 : 0;
                case '>': return value > n ? 1 : 0;
                default: return value == n ? 1 : 0;
            }
        }
    }

    /** THE TEXT, and its reading, which stops at the first sign that no branch can have there. */
    private static final class Scribe {
        private final int[] text = new int[MOST_SIGNS];
        private int length = 0;
        private int at = 0;
        private Branch draft = new Branch();

        private int write(int sign) {
            if (length >= MOST_SIGNS) {
                return FULL;
            }
            text[length] = sign;
            length++;
            return length;
        }

        private Branch handOver() {
            Branch done = draft;
            draft = new Branch();
            return done;
        }

        private boolean readText() {
            at = 0;
            draft.clear();
            for (int clause = 1; clause <= MOST_CLAUSES; clause++) {
                if (!readClause()) {
                    return false;
                }
                if (at == length) {
                    return true;
                }
                if (clause == MOST_CLAUSES || !skip(';')) {
                    return false;
                }
            }
            return false;
        }

        private boolean readClause() {
            if (next() == 'w') {
                return skipWord("warm ") && readWarmth(WARM);
            }
            if (!skip('s')) {
                return false;
            }
            if (next() == 'l') {
                return skipWord("lope ") && readSlope();
            }
            return skipWord("hame ") && readWarmth(SHAME);
        }

        private boolean readSlope() {
            int n = readNumber();
            if (n < 0) {
                return false;
            }
            draft.slope = n;
            return true;
        }

        private boolean readWarmth(int step) {
            int n = readNumber();
            if (n < 0 || !skip(' ') || !readChoice(0)) {
                return false;
            }
            draft.add(step, 0, n);
            return true;
        }

        private boolean readChoice(int within) {
            if (!readChain(within)) {
                return false;
            }
            for (int k = 0; k < MOST_SIGNS && skip('|'); k++) {
                if (!readChain(within)) {
                    return false;
                }
                draft.add(OR, 0, 0);
            }
            return true;
        }

        private boolean readChain(int within) {
            if (!readFactor(within)) {
                return false;
            }
            for (int k = 0; k < MOST_SIGNS && skip('&'); k++) {
                if (!readFactor(within)) {
                    return false;
                }
                draft.add(AND, 0, 0);
            }
            return true;
        }

        private boolean readFactor(int within) {
            if (within < MOST_WITHIN && skip('(')) {
                return readChoice(within + 1) && skip(')');
            }
            if (within < MOST_WITHIN && skip('!')) {
                boolean isRead = readFactor(within + 1);
                draft.add(NOT, 0, 0);
                return isRead;
            }
            return readTest();
        }

        private boolean readTest() {
            int letter = next() < 0 ? -1 : LETTERS.indexOf((char) next());
            if (letter < 0) {
                return false;
            }
            at++;
            int sign = next();
            if (!skip('<') && !skip('=') && !skip('>')) {
                return false;
            }
            int n = readNumber();
            if (n < 0) {
                return false;
            }
            draft.add(letter, sign, n);
            return true;
        }

        private int readNumber() {
            if (!isDigit(next())) {
                return -1;
            }
            int n = next() - '0';
            at++;
            if (isDigit(next())) {
                n = n * 10 + next() - '0';
                at++;
            }
            return n;
        }

        private static boolean isDigit(int sign) {
            return sign >= '0' && sign <= '9';
        }

        private boolean skipWord(String word) {
            for (int k = 0; k < word.length(); k++) {
                if (!skip(word.charAt(k))) {
                    return false;
                }
            }
            return true;
        }

        private boolean skip(char sign) {
            if (next() != sign) {
                return false;
            }
            at++;
            return true;
        }

        private int next() {
            return at < length && at < MOST_SIGNS ? text[at] : -1;
        }
    }

    /** Runs acts as BODIES of kinds, and keeps which began. */
    private static final class Stage {
        private final int[] bodies = new int[MOST_TRACE];
        private int ran = 0;
        private int number = 0;
        private int kind = 0;
        private int v = 0;

        private int play(int fromKind, int act, int x, int depth) {
            int owner = ownerOf(fromKind, act);
            if (owner < 0 || depth > DEEPEST_ACT) {
                return 0;
            }
            int body = BODIES[owner * ACTS + act];
            if (ran < MOST_TRACE) {
                bodies[ran] = body;
            }
            ran++;
            return run(body, KIND_ABOVE[owner], x, depth + 1);
        }

        private int run(int body, int above, int x, int depth) {
            switch (body) {
                case 10: return x + number;
                case 11: return play(kind, HUMS, x, depth) - v;
                case 12: return play(kind, LEANS, x, depth) * 2;
                case 20: return play(above, LEANS, x, depth) ^ 6;
                case 30: return play(above, HUMS, x * 3, depth);
                case 40: return play(above, TELLS, x, depth) + play(kind, LEANS, 1, depth);
                case 50: return -play(above, HUMS, x, depth);
                case 51: return play(above, LEANS, x + 1, depth);
                case 60: return play(above, TELLS, x - number, depth);
                case 70: return play(above, LEANS, x, depth) + play(above, HUMS, 2, depth);
                case 71: return play(above, HUMS, x, depth) ^ v;
                default: return 0;
            }
        }

        private static int ownerOf(int fromKind, int act) {
            int at = fromKind;
            for (int k = 0; k < KINDS && isWithin(at, KINDS) && isWithin(act, ACTS); k++) {
                if (BODIES[at * ACTS + act] != 0) {
                    return at;
                }
                at = KIND_ABOVE[at];
            }
            return -1;
        }
    }

    /** What is told by hand: seen, planned, booked. */
    private static final class Notes {
        private final Rows seen = new Rows(MOST_SEEN);
        private final Rows plan = new Rows(MOST_PLAN);
        private final Rows book = new Rows(MOST_BOOK);

        private void becomeLike(Notes other) {
            seen.becomeLike(other.seen);
            plan.becomeLike(other.plan);
            book.becomeLike(other.book);
        }
    }

    private static final class Rows {
        private static final int ROOM = 10;
        private final int[] first = new int[ROOM];
        private final int[] second = new int[ROOM];
        private final int[] third = new int[ROOM];
        private final int most;
        private int size = 0;

        private Rows(int most) {
            this.most = Math.min(most, ROOM);
        }

        private int clear() {
            size = 0;
            return size;
        }

        private int append(int a, int b, int c) {
            if (size >= most) {
                return FULL;
            }
            first[size] = a;
            second[size] = b;
            third[size] = c;
            size++;
            return size;
        }

        private void becomeLike(Rows other) {
            System.arraycopy(other.first, 0, first, 0, ROOM);
            System.arraycopy(other.second, 0, second, 0, ROOM);
            System.arraycopy(other.third, 0, third, 0, ROOM);
            size = other.size;
        }
    }

    /** Every sort is kept in longs, cut to its bits as it comes in. */
    private static final class Tape {
        private final long[] items = new long[MOST_ITEMS];
        private int sort = EMPTY;
        private int size = 0;

        private int become(int newSort, int newSize) {
            sort = newSort;
            size = Math.max(0, Math.min(newSize, MOST_ITEMS));
            for (int k = 0; k < MOST_ITEMS; k++) {
                items[k] = 0;
            }
            return 1;
        }

        /** Below 0 where there is no such place, as 0 items from the end on are a good stretch. */
        private int countFrom(int i) {
            return i < 0 || i > size ? -1 : size - i;
        }

        private long lowestBits(long v) {
            switch (sort) {
                case BYTES: return (byte) v;
                case SHORTS: return (short) v;
                case INTS: return (int) v;
                case BOOLEANS: return v != 0 ? 1 : 0;
                default: return v;
            }
        }
    }
}
