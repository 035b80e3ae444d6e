/** Clash days: who sits which papers of a day in which order, and what comes of it. */
public final class ClashDays {
    public static final int NONE = -1;

    private static final int BAD = -52;
    private static final int OTHER = -53;
    private static final int NOTHING = -54;
    private static final int STUCK = -55;
    private static final int FULL = -56;
    private static final int REFUSAL_SORTS = 5;
    private static final int BOOK_REFUSED = -600;

    private static final int DAYS = 5;
    private static final int SLOTS = 48;
    private static final int MAX_PAPERS = 12;
    private static final int MAX_CANDS = 10;
    private static final int MAX_ROOMS = 6;
    private static final int MAX_OF_DAY = 4;
    private static final int MAX_LENGTH = 12;
    private static final int MAX_A = 9;
    private static final int MAX_SEATS = 9;
    private static final int LEAST_HOURS = 8;
    private static final int MOST_HOURS = 40;
    private static final int MAX_TURN = 8;
    private static final int MAX_CHANGES = 60;
    private static final int MAX_TOLD = 12;

    /** Each run of kept slots ends where a paper of that day begins (or goes over), so there are no more of them. */
    private static final int MAX_DUTIES = DAYS * MAX_CANDS * MAX_OF_DAY;
    /** The papers of a day, what came over, and the duties. */
    private static final int MAX_PIECES = MAX_OF_DAY + 1 + MAX_OF_DAY;

    private static final int IS_KEPT = 20;
    private static final int BY_KEPT = 0;
    private static final int MEASURES = 5;
    private static final int SHELF_CAND = 10;

    private final Book now = new Book();
    /** What is tried out, so that the book itself is never touched by a question. */
    private final Book draft = new Book();
    private final Book image = new Book();
    private boolean hasImage;
    private final Tape tape = new Tape();
    private final Shelves shelves = new Shelves();
    private final int[] refusals = new int[REFUSAL_SORTS];
    private final Planner planner = new Planner();
    private final Weeks weeks = new Weeks();
    private final Week trial = new Week();
    private final Duties duties = new Duties();
    private final Seats seats = new Seats();
    private final int[] cantsByStart = new int[SLOTS];
    private final int[] keptByStart = new int[SLOTS];

    public ClashDays() {
    }

    // ---- shelves

    public int row(int s, int sort, int n) {
        if (!Shelves.isShelf(s) || !Shelves.isSort(sort) || n < 0 || n > Shelves.MAX_ELEMENTS) {
            return refuse(BAD);
        }
        shelves.putRow(s, sort, n);
        return 1;
    }

    public int set(int s, int i, long v) {
        if (!Shelves.isShelf(s)) {
            return refuse(BAD);
        }
        int trouble = shelves.rowTrouble(s);
        if (trouble != 0) {
            return refuse(trouble);
        }
        if (!shelves.hasElement(s, i)) {
            return refuse(BAD);
        }
        shelves.putElement(s, i, v);
        return 1;
    }

    public int copy(int p, int q, int i, int j, int n) {
        if (!Shelves.isShelf(p) || !Shelves.isShelf(q)) {
            return refuse(BAD);
        }
        int from = shelves.rowTrouble(p);
        int to = shelves.rowTrouble(q);
        if (from == OTHER || to == OTHER) {
            return refuse(OTHER);
        }
        if (from == NOTHING || to == NOTHING) {
            return refuse(NOTHING);
        }
        if (shelves.holding(p) != shelves.holding(q)) {
            return refuse(OTHER);
        }
        if (!shelves.hasElements(p, i, n) || !shelves.hasElements(q, j, n)) {
            return refuse(BAD);
        }
        shelves.carry(p, q, i, j, n);
        return n;
    }

    public long element(int s, int i) {
        return shelves.elementAt(s, i);
    }

    public int holds(int s) {
        return shelves.holding(s);
    }

    public int show(int s, int cand) {
        if (!Shelves.isShelf(s) || (cand != NONE && !now.hasCand(cand))) {
            return refuse(BAD);
        }
        shelves.putCand(s, cand);
        return 1;
    }

    public int says(int s, int kind, int n) {
        if (!Shelves.isShelf(s) || !Kinds.isKind(kind) || n < 1 || n > MAX_LENGTH) {
            return refuse(BAD);
        }
        if (shelves.holding(s) == NONE) {
            return refuse(NOTHING);
        }
        int cand = shelves.candOn(s);
        if (!now.hasCand(cand) || !Kinds.isUnder(now.kindOf[cand], kind)) {
            return refuse(OTHER);
        }
        return Kinds.word(kind, now.kindOf[cand], now.aOf[cand], n);
    }

    // ---- what there is

    public int paper(int day, int start, int length) {
        if (!isDay(day) || !isSlot(start) || length < 1 || length > MAX_LENGTH) {
            return refuse(BAD);
        }
        if (now.papers >= MAX_PAPERS) {
            return refuse(FULL);
        }
        return now.addPaper(day, start, length);
    }

    public int starts(int paper, int v) {
        if (!now.hasPaper(paper) || !isSlot(v)) {
            return refuse(BAD);
        }
        int was = now.startOf[paper];
        now.startOf[paper] = v;
        weeks.forgetAll();
        return was;
    }

    public int cand(int kind, int a) {
        if (!Kinds.isKind(kind) || a < 0 || a > MAX_A) {
            return refuse(BAD);
        }
        if (now.cands >= MAX_CANDS) {
            return refuse(FULL);
        }
        int cand = now.addCand(kind, a);
        weeks.forget(cand);
        return cand;
    }

    public int takes(int cand, int paper, int is) {
        if (!now.hasCand(cand) || !now.hasPaper(paper) || !isYesOrNo(is)) {
            return refuse(BAD);
        }
        int was = now.doesTake(cand, paper) ? 1 : 0;
        if (is != was) {
            if (!now.mayFlip(cand, paper)) {
                return refuse(STUCK);
            }
            now.flip(cand, paper);
            weeks.forget(cand);
        }
        return was;
    }

    public int night(int cand, int v) {
        if (!now.hasCand(cand) || !isYesOrNo(v)) {
            return refuse(BAD);
        }
        int was = now.nightOf[cand];
        now.nightOf[cand] = v;
        weeks.forget(cand);
        return was;
    }

    public int room(int seats) {
        if (seats < 1 || seats > MAX_SEATS) {
            return refuse(BAD);
        }
        if (now.rooms >= MAX_ROOMS) {
            return refuse(FULL);
        }
        weeks.forgetOthers();
        return now.addRoom(seats);
    }

    public int hours(int v) {
        if (v < LEAST_HOURS || v > MOST_HOURS) {
            return refuse(BAD);
        }
        int was = now.hours;
        now.hours = v;
        weeks.forgetAll();
        return was;
    }

    public int turn(int v) {
        if (v < 0 || v > MAX_TURN) {
            return refuse(BAD);
        }
        int was = now.turn;
        now.turn = v;
        weeks.forgetOthers();
        return was;
    }

    // ---- the tape

    public int feed(int letter) {
        if (letter < 0 || letter > 255) {
            return refuse(BAD);
        }
        if (tape.isFull()) {
            return refuse(FULL);
        }
        return tape.append(letter);
    }

    public int wipe() {
        return tape.clear();
    }

    public int book() {
        draft.become(now);
        int statements = tape.readInto(draft);
        tape.clear();
        if (statements == NONE) {
            refuse(BAD);
            return BOOK_REFUSED - tape.fault();
        }
        now.become(draft);
        weeks.forgetAll();
        return statements;
    }

    // ---- what is so

    public int candOf(int cand, int what) {
        if (!now.hasCand(cand)) {
            return refuse(BAD);
        }
        switch (what) {
            case 0: return now.kindOf[cand];
            case 1: return now.aOf[cand];
            case 2: return now.nightOf[cand];
            case 3: return now.takesOf[cand];
            case 4: return now.restFor(cand);
            case 5: return weeks.of(now, cand).cants();
            default: return refuse(BAD);
        }
    }

    public int paperOf(int paper, int what) {
        if (!now.hasPaper(paper)) {
            return refuse(BAD);
        }
        switch (what) {
            case 0: return now.dayOf[paper];
            case 1: return now.startOf[paper];
            case 2: return now.lengthOf[paper];
            case 3: return takersOf(paper);
            case 4: return lateOnesOf(paper);
            default: return refuse(BAD);
        }
    }

    public int time(int cand, int paper) {
        if (!now.hasCand(cand) || !now.hasPaper(paper)) {
            return refuse(BAD);
        }
        return now.timeFor(cand, paper);
    }

    public int plan(int cand, int day, int what) {
        if (!now.hasCand(cand) || !isDay(day)) {
            return refuse(BAD);
        }
        Week week = weeks.of(now, cand);
        switch (what) {
            case 0: return week.can[day] ? 1 : 0;
            case 1: return Long.bitCount(week.kept[day]);
            case 2: return week.over[day];
            case 3: return week.free[day];
            case 4: return week.ahead[day];
            case 5: return week.count[day];
            case 6: return week.can[day] ? 0 : planner.clash(now, cand, day, week);
            default: return refuse(BAD);
        }
    }

    public int sits(int cand, int day, int i, int what) {
        if (!now.hasCand(cand) || !isDay(day)) {
            return refuse(BAD);
        }
        Week week = weeks.of(now, cand);
        if (i < 0 || i >= week.count[day]) {
            return refuse(BAD);
        }
        int place = day * MAX_OF_DAY + i;
        switch (what) {
            case 0: return week.order[place];
            case 1: return week.begin[place];
            case 2: return week.end[place];
            default: return refuse(BAD);
        }
    }

    public int does(int cand, int day, int slot) {
        if (!now.hasCand(cand) || !isDay(day) || !isSlot(slot)) {
            return refuse(BAD);
        }
        return weeks.of(now, cand).deed(day, slot);
    }

    public int measure(int cand, int day, int by) {
        if (!now.hasCand(cand) || !isDay(day) || !isMeasure(by)) {
            return refuse(BAD);
        }
        Week week = weeks.of(now, cand);
        if (!week.can[day] || week.over[day] != NONE || week.count[day] == 0) {
            return refuse(STUCK);
        }
        return week.measured(now, day, by);
    }

    public int best(int cand, int day, int by, int i) {
        if (!now.hasCand(cand) || !isDay(day) || !isMeasure(by)) {
            return refuse(BAD);
        }
        Orders orders = planner.ordersOf(now, cand, day, weeks.of(now, cand));
        if (orders.count() == 0 || !orders.search(by, 0L)) {
            return NONE;
        }
        if (i == NONE) {
            return orders.least();
        }
        if (i < 0 || i >= orders.count()) {
            return refuse(BAD);
        }
        return orders.paperAt(i);
    }

    public int lawful(int cand, int day) {
        if (!now.hasCand(cand) || !isDay(day)) {
            return refuse(BAD);
        }
        Orders orders = planner.ordersOf(now, cand, day, weeks.of(now, cand));
        orders.search(BY_KEPT, 0L);
        return orders.lawfulOnes();
    }

    // ---- watchers and rooms

    public int watch(int what) {
        if (what < 0 || what > 2) {
            return refuse(BAD);
        }
        duties.gather(now, weeks);
        switch (what) {
            case 0: return duties.count();
            case 1: return duties.watchers();
            default: return duties.atOnce();
        }
    }

    public int duty(int i, int what) {
        duties.gather(now, weeks);
        if (i < 0 || i >= duties.count() || what < 0 || what > 4) {
            return refuse(BAD);
        }
        return duties.tell(i, what);
    }

    public int pieces(int cand, int day, int what) {
        if (!now.hasCand(cand) || !isDay(day) || what < 0 || what > 1) {
            return refuse(BAD);
        }
        seats.lay(now, weeks, day);
        return what == 0 ? seats.piecesOf(cand) : seats.movesOf(cand);
    }

    public int roomOf(int cand, int day, int i) {
        if (!now.hasCand(cand) || !isDay(day)) {
            return refuse(BAD);
        }
        seats.lay(now, weeks, day);
        if (i < 0 || i >= seats.piecesOf(cand)) {
            return refuse(BAD);
        }
        return seats.roomAt(cand, i);
    }

    public int left(int room, int day, int slot) {
        if (!now.hasRoom(room) || !isDay(day) || !isSlot(slot)) {
            return refuse(BAD);
        }
        seats.lay(now, weeks, day);
        return now.seatsOf[room] - seats.usedAt(room, slot);
    }

    // ---- what if

    public int whatIf(int cand, int paper) {
        if (!now.hasCand(cand) || !now.hasPaper(paper)) {
            return refuse(BAD);
        }
        if (!now.mayFlip(cand, paper)) {
            return refuse(STUCK);
        }
        draft.become(now);
        return cantsFlipped(cand, paper);
    }

    public int both(int cand, int p, int q) {
        if (!now.hasCand(cand) || !now.hasPaper(p) || !now.hasPaper(q)) {
            return refuse(BAD);
        }
        draft.become(now);
        if (!draft.mayFlip(cand, p)) {
            return refuse(STUCK);
        }
        draft.flip(cand, p);
        if (!draft.mayFlip(cand, q)) {
            return refuse(STUCK);
        }
        draft.flip(cand, q);
        planner.planWeek(draft, cand, trial);
        return trial.keptSlots();
    }

    public int relief(int cand) {
        if (!now.hasCand(cand)) {
            return refuse(BAD);
        }
        draft.become(now);
        int relief = NONE;
        int fewest = 0;
        for (int p = 0; p < draft.papers; p++) {
            if (draft.mayFlip(cand, p)) {
                int cants = cantsFlipped(cand, p);
                if (relief == NONE || cants < fewest) {
                    relief = p;
                    fewest = cants;
                }
            }
        }
        return relief;
    }

    public int retime(int paper) {
        if (!now.hasPaper(paper)) {
            return refuse(BAD);
        }
        tryStarts(paper);
        int least = 0;
        for (int v = 1; v < SLOTS; v++) {
            boolean fewer = cantsByStart[v] < cantsByStart[least];
            boolean same = cantsByStart[v] == cantsByStart[least];
            if (fewer || (same && keptByStart[v] < keptByStart[least])) {
                least = v;
            }
        }
        return least;
    }

    public int hoursFor(int cand) {
        if (!now.hasCand(cand)) {
            return refuse(BAD);
        }
        draft.become(now);
        for (int v = LEAST_HOURS; v <= MOST_HOURS; v++) {
            draft.hours = v;
            planner.planWeek(draft, cand, trial);
            if (trial.cants() == 0) {
                return v;
            }
        }
        return NONE;
    }

    // ---- told rows

    public int kinds(int cand, int s, int n) {
        if (!now.hasCand(cand) || !Shelves.isShelf(s) || !isTold(n)) {
            return refuse(BAD);
        }
        int trouble = shelves.rowTrouble(s);
        if (trouble != 0) {
            return refuse(trouble);
        }
        if (!shelves.hasElements(s, 0, 2 * n)) {
            return refuse(BAD);
        }
        for (int i = 0; i < n; i++) {
            if (!now.hasPaper(shelves.elementAt(s, 2 * i))) {
                return refuse(STUCK);
            }
        }
        int bits = 0;
        for (int kind = 0; kind < Kinds.COUNT; kind++) {
            if (hasToldTimes(kind, now.aOf[cand], s, n)) {
                bits |= 1 << kind;
            }
        }
        return bits;
    }

    public int judge(int cand, int day, int s, int n) {
        if (!now.hasCand(cand) || !isDay(day) || !Shelves.isShelf(s) || !isTold(n)) {
            return refuse(BAD);
        }
        int trouble = shelves.rowTrouble(s);
        if (trouble != 0) {
            return refuse(trouble);
        }
        if (!shelves.hasElements(s, 0, n)) {
            return refuse(BAD);
        }
        return firstWrong(cand, day, s, n);
    }

    public int together(int paper, int day, int slot) {
        if (!now.hasPaper(paper) || !isDay(day) || !isSlot(slot)) {
            return refuse(BAD);
        }
        int bits = 0;
        for (int c = 0; c < now.cands; c++) {
            if (weeks.of(now, c).deed(day, slot) == paper) {
                bits |= 1 << c;
            }
        }
        return bits;
    }

    // ---- truth, image, status

    public int changes(int n) {
        if (n < 1 || n > MAX_CHANGES) {
            return refuse(BAD);
        }
        if (now.cands == 0 || now.papers == 0) {
            return refuse(STUCK);
        }
        int done = 0;
        for (int i = 0; i < n; i++) {
            int cand = now.draw(now.cands);
            int paper = now.draw(now.papers);
            if (now.hasCand(cand) && now.hasPaper(paper) && now.mayFlip(cand, paper)) {
                now.flip(cand, paper);
                done++;
            }
        }
        weeks.forgetAll();
        return done;
    }

    public int seed(int v) {
        int was = now.seed;
        now.seed = v;
        return was;
    }

    public int image() {
        image.become(now);
        hasImage = true;
        return 1;
    }

    public int back() {
        if (!hasImage) {
            return refuse(STUCK);
        }
        now.become(image);
        shelves.dropCandsFrom(now.cands);
        weeks.forgetAll();
        return 1;
    }

    public int status(int what) {
        if (what >= 12 && what < 12 + REFUSAL_SORTS) {
            return refusals[what - 12];
        }
        switch (what) {
            case 0: return now.papers;
            case 1: return now.cands;
            case 2: return now.rooms;
            case 3: return now.hours;
            case 4: return now.turn;
            case 5: return now.takenInAll();
            case 6: return daysSomebodyCant();
            case 7: return tape.size();
            case 8: return now.seed;
            case 9: return shelves.filled();
            default: return NONE;
        }
    }

    // ---- helpers of the face

    private int refuse(int number) {
        int sort = BAD - number;
        if (sort >= 0 && sort < REFUSAL_SORTS) {
            refusals[sort]++;
        }
        return number;
    }

    private static boolean isDay(int day) {
        return day >= 0 && day < DAYS;
    }

    private static boolean isSlot(int slot) {
        return slot >= 0 && slot < SLOTS;
    }

    private static boolean isYesOrNo(int v) {
        return v == 0 || v == 1;
    }

    private static boolean isMeasure(int by) {
        return by >= 0 && by < MEASURES;
    }

    private static boolean isTold(int n) {
        return n >= 0 && n <= MAX_TOLD;
    }

    /** The slots from one on, ahead of another, as bits; none, if the other isn't later. */
    private static long span(int from, int to) {
        return ((1L << to) - 1) & ~((1L << from) - 1);
    }

    private static boolean hasBit(int bits, int i) {
        return (bits >> i & 1) != 0;
    }

    private static boolean hasSlot(long slots, int slot) {
        return (slots >> slot & 1L) != 0;
    }

    private int takersOf(int paper) {
        int n = 0;
        for (int c = 0; c < now.cands; c++) {
            if (now.doesTake(c, paper)) {
                n++;
            }
        }
        return n;
    }

    private int lateOnesOf(int paper) {
        int n = 0;
        for (int c = 0; c < now.cands; c++) {
            if (weeks.of(now, c).beginsLate(now, paper)) {
                n++;
            }
        }
        return n;
    }

    private int daysSomebodyCant() {
        int n = 0;
        for (int day = 0; day < DAYS; day++) {
            boolean somebody = false;
            for (int c = 0; c < now.cands && !somebody; c++) {
                somebody = !weeks.of(now, c).can[day];
            }
            if (somebody) {
                n++;
            }
        }
        return n;
    }

    /** The days one can't, with one paper of the draft changed; the draft is as it was behind that. */
    private int cantsFlipped(int cand, int paper) {
        draft.flip(cand, paper);
        trial.become(weeks.of(now, cand));
        planner.replan(draft, cand, draft.dayOf[paper], trial);
        draft.flip(cand, paper);
        return trial.cants();
    }

    /** Those who don't take the paper have the same with every start, so only its takers are counted. */
    private void tryStarts(int paper) {
        draft.become(now);
        for (int v = 0; v < SLOTS; v++) {
            cantsByStart[v] = 0;
            keptByStart[v] = 0;
            draft.startOf[paper] = v;
            for (int c = 0; c < draft.cands; c++) {
                if (draft.doesTake(c, paper)) {
                    trial.become(weeks.of(now, c));
                    planner.replan(draft, c, draft.dayOf[paper], trial);
                    cantsByStart[v] += trial.cants();
                    keptByStart[v] += trial.keptSlots();
                }
            }
        }
    }

    private boolean hasToldTimes(int kind, int a, int s, int n) {
        for (int i = 0; i < n; i++) {
            long paper = shelves.elementAt(s, 2 * i);
            if (!now.hasPaper(paper)) {
                return false;
            }
            int time = Kinds.timeOf(kind, a, now.lengthOf[(int) paper]);
            if (shelves.elementAt(s, 2 * i + 1) != time) {
                return false;
            }
        }
        return true;
    }

    private int firstWrong(int cand, int day, int s, int n) {
        Week week = weeks.of(now, cand);
        int bits = now.takesOf[cand] & now.papersOf(day);
        int next = week.free[day];
        int total = week.ahead[day];
        for (int i = 0; i < n; i++) {
            long told = shelves.elementAt(s, i);
            if (!now.hasPaper(told) || !hasBit(bits, (int) told)) {
                return i;
            }
            int paper = (int) told;
            bits &= ~(1 << paper);
            int time = now.timeFor(cand, paper);
            int end = Math.max(now.startOf[paper], next) + time;
            total += time;
            if (end > SLOTS || total > now.hours) {
                return i;
            }
            next = end + now.restFor(cand);
        }
        return NONE;
    }

    /** The kinds of candidates: who has more time, who more rest. */
    private static final class Kinds {
        static final int COUNT = 6;
        private static final int CANDIDATE = 0;
        private static final int SLOW = 1;
        private static final int RESTING = 2;
        private static final int SLOWER = 3;
        private static final int RESTED = 4;
        private static final int READER = 5;

        static boolean isKind(int kind) {
            return kind >= 0 && kind < COUNT;
        }

        private static int above(int kind) {
            switch (kind) {
                case SLOW:
                case RESTING:
                case READER: return CANDIDATE;
                case SLOWER: return SLOW;
                case RESTED: return RESTING;
                default: return NONE;
            }
        }

        /** Whether one of a kind is one of another kind too: that itself, or one above it. */
        static boolean isUnder(int kind, int other) {
            int up = kind;
            for (int i = 0; i < COUNT && up != NONE; i++) {
                if (up == other) {
                    return true;
                }
                up = above(up);
            }
            return false;
        }

        static int timeOf(int kind, int a, int length) {
            int slow = length + (length * a + 9) / 10;
            switch (kind) {
                case SLOW: return slow;
                case SLOWER: return slow + 1;
                case READER: return length + 2;
                default: return length;
            }
        }

        static int restOf(int kind, int a) {
            int resting = 1 + a / 3;
            switch (kind) {
                case RESTING: return resting;
                case RESTED: return 2 * resting;
                case READER: return 2;
                default: return 1;
            }
        }

        /** What one of a kind says, taken for one of another. */
        static int word(int as, int kind, int a, int length) {
            switch (as) {
                case CANDIDATE: return a;
                case SLOW:
                case SLOWER: return timeOf(kind, a, length);
                case READER: return timeOf(kind, a, length) + restOf(kind, a);
                default: return restOf(kind, a);
            }
        }
    }

    /** All that is kept by an image: papers, candidates, rooms, and the numbers that hold for all. */
    private static final class Book {
        final int[] dayOf = new int[MAX_PAPERS];
        final int[] startOf = new int[MAX_PAPERS];
        final int[] lengthOf = new int[MAX_PAPERS];
        final int[] kindOf = new int[MAX_CANDS];
        final int[] aOf = new int[MAX_CANDS];
        final int[] nightOf = new int[MAX_CANDS];
        final int[] takesOf = new int[MAX_CANDS];
        final int[] seatsOf = new int[MAX_ROOMS];
        int papers;
        int cands;
        int rooms;
        int hours = 24;
        int turn = 1;
        int seed = 1;

        void become(Book other) {
            System.arraycopy(other.dayOf, 0, dayOf, 0, MAX_PAPERS);
            System.arraycopy(other.startOf, 0, startOf, 0, MAX_PAPERS);
            System.arraycopy(other.lengthOf, 0, lengthOf, 0, MAX_PAPERS);
            System.arraycopy(other.kindOf, 0, kindOf, 0, MAX_CANDS);
            System.arraycopy(other.aOf, 0, aOf, 0, MAX_CANDS);
            System.arraycopy(other.nightOf, 0, nightOf, 0, MAX_CANDS);
            System.arraycopy(other.takesOf, 0, takesOf, 0, MAX_CANDS);
            System.arraycopy(other.seatsOf, 0, seatsOf, 0, MAX_ROOMS);
            papers = other.papers;
            cands = other.cands;
            rooms = other.rooms;
            hours = other.hours;
            turn = other.turn;
            seed = other.seed;
        }

        boolean hasPaper(long p) {
            return p >= 0 && p < papers;
        }

        boolean hasCand(int c) {
            return c >= 0 && c < cands;
        }

        boolean hasRoom(int r) {
            return r >= 0 && r < rooms;
        }

        int addPaper(int day, int start, int length) {
            if (papers >= MAX_PAPERS) {
                return NONE;
            }
            dayOf[papers] = day;
            startOf[papers] = start;
            lengthOf[papers] = length;
            papers++;
            return papers - 1;
        }

        int addCand(int kind, int a) {
            if (cands >= MAX_CANDS) {
                return NONE;
            }
            kindOf[cands] = kind;
            aOf[cands] = a;
            nightOf[cands] = 0;
            takesOf[cands] = 0;
            cands++;
            return cands - 1;
        }

        int addRoom(int seats) {
            if (rooms >= MAX_ROOMS) {
                return NONE;
            }
            seatsOf[rooms] = seats;
            rooms++;
            return rooms - 1;
        }

        boolean doesTake(int c, int p) {
            return hasBit(takesOf[c], p);
        }

        /** Whether one may take a paper or leave it, whichever it doesn't do: a fifth of a day it can't take. */
        boolean mayFlip(int c, int p) {
            return doesTake(c, p) || Integer.bitCount(takesOf[c] & papersOf(dayOf[p])) < MAX_OF_DAY;
        }

        void flip(int c, int p) {
            takesOf[c] ^= 1 << p;
        }

        int papersOf(int day) {
            int bits = 0;
            for (int p = 0; p < papers; p++) {
                if (dayOf[p] == day) {
                    bits |= 1 << p;
                }
            }
            return bits;
        }

        int timeFor(int c, int p) {
            return Kinds.timeOf(kindOf[c], aOf[c], lengthOf[p]);
        }

        int restFor(int c) {
            return Kinds.restOf(kindOf[c], aOf[c]);
        }

        int takenInAll() {
            int n = 0;
            for (int c = 0; c < cands; c++) {
                n += Integer.bitCount(takesOf[c]);
            }
            return n;
        }

        int draw(int below) {
            seed = seed * 1103515245 + 12345;
            return below > 0 ? (seed >>> 16) % below : 0;
        }
    }

    /** Shelves with rows or candidates; a row's elements are held as the numbers that they tell. */
    private static final class Shelves {
        static final int MAX_ELEMENTS = 40;
        private static final int COUNT = 8;
        private static final int BYTES = 0;
        private static final int SHORTS = 1;
        private static final int INTS = 2;
        private static final int LONGS = 3;
        private static final int BOOLEANS = 4;

        private final int[] held = {NONE, NONE, NONE, NONE, NONE, NONE, NONE, NONE};
        private final int[] size = new int[COUNT];
        private final long[] elements = new long[COUNT * MAX_ELEMENTS];

        static boolean isShelf(int s) {
            return s >= 0 && s < COUNT;
        }

        static boolean isSort(int sort) {
            return sort >= BYTES && sort <= BOOLEANS;
        }

        int holding(int s) {
            return isShelf(s) ? held[s] : NONE;
        }

        /** Why there is no row on a shelf: a refusal, or 0, if there is one. */
        int rowTrouble(int s) {
            int what = holding(s);
            if (what == NONE) {
                return NOTHING;
            }
            return what >= SHELF_CAND ? OTHER : 0;
        }

        int candOn(int s) {
            int what = holding(s);
            return what >= SHELF_CAND ? what - SHELF_CAND : NONE;
        }

        void putRow(int s, int sort, int n) {
            held[s] = sort;
            size[s] = n;
            for (int i = 0; i < MAX_ELEMENTS; i++) {
                elements[s * MAX_ELEMENTS + i] = 0L;
            }
        }

        void putCand(int s, int cand) {
            held[s] = cand == NONE ? NONE : SHELF_CAND + cand;
            size[s] = 0;
        }

        boolean hasElement(int s, int i) {
            return isShelf(s) && i >= 0 && i < size[s];
        }

        /** Whether n places from i on are there; written so that no sum can wrap. */
        boolean hasElements(int s, int i, int n) {
            return isShelf(s) && i >= 0 && n >= 0 && i <= size[s] && n <= size[s] - i;
        }

        long elementAt(int s, int i) {
            return hasElement(s, i) ? elements[s * MAX_ELEMENTS + i] : 0L;
        }

        void putElement(int s, int i, long v) {
            if (hasElement(s, i)) {
                elements[s * MAX_ELEMENTS + i] = lowest(held[s], v);
            }
        }

        void carry(int p, int q, int i, int j, int n) {
            System.arraycopy(elements, p * MAX_ELEMENTS + i, elements, q * MAX_ELEMENTS + j, n);
        }

        private static long lowest(int sort, long v) {
            switch (sort) {
                case BYTES: return (byte) v;
                case SHORTS: return (short) v;
                case INTS: return (int) v;
                case LONGS: return v;
                default: return v != 0 ? 1L : 0L;
            }
        }

        void dropCandsFrom(int cands) {
            for (int s = 0; s < COUNT; s++) {
                if (candOn(s) >= cands) {
                    held[s] = NONE;
                }
            }
        }

        int filled() {
            int n = 0;
            for (int s = 0; s < COUNT; s++) {
                if (held[s] != NONE) {
                    n++;
                }
            }
            return n;
        }
    }

    /** The tape, and the reading of a book from it. */
    private static final class Tape {
        private static final int MAX_BYTES = 250;
        private static final int MAX_DIGITS = 2;

        private final int[] bytes = new int[MAX_BYTES];
        private int size;
        private int at;
        private int tokenAt;
        private int fault;

        boolean isFull() {
            return size >= MAX_BYTES;
        }

        int size() {
            return size;
        }

        int fault() {
            return fault;
        }

        int append(int letter) {
            if (size < MAX_BYTES) {
                bytes[size] = letter;
                size++;
            }
            return size;
        }

        int clear() {
            int was = size;
            size = 0;
            return was;
        }

        /** Reads the tape as a book: how many statements, or none, and then there is a fault. */
        int readInto(Book book) {
            at = 0;
            int statements = 0;
            for (int i = 0; i <= MAX_BYTES; i++) {
                if (!statement(book)) {
                    return NONE;
                }
                statements++;
                skipBlanks();
                if (at >= size) {
                    return statements;
                }
                if (byteAt(at) != ';') {
                    fault = at;
                    return NONE;
                }
                at++;
            }
            return NONE;
        }

        private boolean statement(Book book) {
            skipBlanks();
            tokenAt = at;
            for (int i = 0; i < MAX_BYTES && isLetter(byteAt(at)); i++) {
                at++;
            }
            if (isWord("paper")) {
                return readPaper(book);
            }
            if (isWord("cand")) {
                return readCand(book);
            }
            if (isWord("takes")) {
                return readTakes(book);
            }
            if (isWord("drops")) {
                return readDrops(book);
            }
            if (isWord("night")) {
                return readNight(book);
            }
            if (isWord("room")) {
                return readRoom(book);
            }
            if (isWord("hours")) {
                return readHours(book);
            }
            if (isWord("turn")) {
                return readTurn(book);
            }
            return faultHere();
        }

        private boolean readPaper(Book book) {
            if (book.papers >= MAX_PAPERS) {
                return faultHere();
            }
            int day = number(0, DAYS - 1);
            int start = day == NONE ? NONE : number(0, SLOTS - 1);
            int length = start == NONE ? NONE : number(1, MAX_LENGTH);
            return length != NONE && book.addPaper(day, start, length) != NONE;
        }

        private boolean readCand(Book book) {
            if (book.cands >= MAX_CANDS) {
                return faultHere();
            }
            int kind = number(0, Kinds.COUNT - 1);
            int a = kind == NONE ? NONE : number(0, MAX_A);
            return a != NONE && book.addCand(kind, a) != NONE;
        }

        private boolean readTakes(Book book) {
            int cand = number(0, book.cands - 1);
            int paper = cand == NONE ? NONE : number(0, book.papers - 1);
            if (paper == NONE) {
                return false;
            }
            if (!book.doesTake(cand, paper)) {
                if (!book.mayFlip(cand, paper)) {
                    return faultHere();
                }
                book.flip(cand, paper);
            }
            return true;
        }

        private boolean readDrops(Book book) {
            int cand = number(0, book.cands - 1);
            int paper = cand == NONE ? NONE : number(0, book.papers - 1);
            if (paper == NONE) {
                return false;
            }
            if (book.doesTake(cand, paper)) {
                book.flip(cand, paper);
            }
            return true;
        }

        private boolean readNight(Book book) {
            int cand = number(0, book.cands - 1);
            if (cand == NONE) {
                return false;
            }
            book.nightOf[cand] = 1;
            return true;
        }

        private boolean readRoom(Book book) {
            if (book.rooms >= MAX_ROOMS) {
                return faultHere();
            }
            int seats = number(1, MAX_SEATS);
            return seats != NONE && book.addRoom(seats) != NONE;
        }

        private boolean readHours(Book book) {
            int hours = number(LEAST_HOURS, MOST_HOURS);
            if (hours == NONE) {
                return false;
            }
            book.hours = hours;
            return true;
        }

        private boolean readTurn(Book book) {
            int turn = number(0, MAX_TURN);
            if (turn == NONE) {
                return false;
            }
            book.turn = turn;
            return true;
        }

        /** The next token as a number within two bounds; none, if it isn't one, and then there is a fault. */
        private int number(int least, int most) {
            skipBlanks();
            tokenAt = at;
            int value = 0;
            int digits = 0;
            for (int i = 0; i < MAX_BYTES && isDigit(byteAt(at)); i++) {
                if (digits < MAX_DIGITS) {
                    value = value * 10 + byteAt(at) - '0';
                }
                digits++;
                at++;
            }
            if (digits == 0 || digits > MAX_DIGITS || value < least || value > most) {
                faultHere();
                return NONE;
            }
            return value;
        }

        /** The token that began last can't stand there; if the tape had ended, its place is the tape's size. */
        private boolean faultHere() {
            fault = tokenAt;
            return false;
        }

        private void skipBlanks() {
            for (int i = 0; i < MAX_BYTES && byteAt(at) == ' '; i++) {
                at++;
            }
        }

        private int byteAt(int i) {
            return i >= 0 && i < size && i < MAX_BYTES ? bytes[i] : NONE;
        }

        private boolean isWord(String word) {
            if (at - tokenAt != word.length()) {
                return false;
            }
            for (int i = 0; i < word.length(); i++) {
                if (byteAt(tokenAt + i) != word.charAt(i)) {
                    return false;
                }
            }
            return true;
        }

        private static boolean isLetter(int b) {
            return b >= 'a' && b <= 'z';
        }

        private static boolean isDigit(int b) {
            return b >= '0' && b <= '9';
        }
    }

    /** All orders of some papers of one day for one candidate, and the best of them. */
    private static final class Orders {
        /** As many as four papers have, and one look more. */
        private static final int MAX_ROWS = 25;

        private final int[] paper = new int[MAX_OF_DAY];
        private final int[] start = new int[MAX_OF_DAY];
        private final int[] time = new int[MAX_OF_DAY];
        private final int[] row = new int[MAX_OF_DAY];
        private final int[] chosen = new int[MAX_OF_DAY];
        private final int[] begin = new int[MAX_OF_DAY];
        private int count;
        private int rest;
        private int free;
        private int spare;
        private long came;
        private long kept;
        private int lawfulOnes;
        private int least;

        int count() {
            return count;
        }

        int lawfulOnes() {
            return lawfulOnes;
        }

        int least() {
            return least;
        }

        long keptSlots() {
            return kept;
        }

        int paperAt(int i) {
            return i >= 0 && i < count ? paper[chosen[i]] : NONE;
        }

        int beginAt(int i) {
            return i >= 0 && i < count ? begin[i] : NONE;
        }

        int endAt(int i) {
            return i >= 0 && i < count ? begin[i] + time[chosen[i]] : NONE;
        }

        /** Takes up the papers told by bits; what came over fills the first slots of the day. */
        void gather(Book book, int cand, int bits, int freeFrom, int ahead) {
            count = 0;
            rest = book.restFor(cand);
            free = freeFrom;
            spare = book.hours - ahead;
            came = span(0, ahead);
            for (int p = 0; p < book.papers; p++) {
                if (hasBit(bits, p) && count < MAX_OF_DAY) {
                    paper[count] = p;
                    start[count] = book.startOf[p];
                    time[count] = book.timeFor(cand, p);
                    spare -= time[count];
                    count++;
                }
            }
        }

        /**
         * Looks at all orders, counts the lawful ones and keeps the one of least measure, the first by rows;
         * waiting are the slots in which what goes over is waited for. Answers whether one is lawful.
         */
        boolean search(int by, long waiting) {
            lawfulOnes = 0;
            least = 0;
            if (spare < 0) {
                return false;
            }
            for (int i = 0; i < count; i++) {
                row[i] = i;
            }
            boolean more = true;
            for (int i = 0; i < MAX_ROWS && more; i++) {
                if (walk(row, waiting)) {
                    int m = measured(by);
                    if (lawfulOnes == 0 || m < least) {
                        least = m;
                        System.arraycopy(row, 0, chosen, 0, MAX_OF_DAY);
                    }
                    lawfulOnes++;
                }
                more = nextRow();
            }
            return lawfulOnes > 0 && walk(chosen, waiting);
        }

        /** Sits the papers by a row; false, if one would end behind the day. */
        private boolean walk(int[] by, long waiting) {
            long sat = came;
            long waits = waiting;
            int next = free;
            for (int i = 0; i < count; i++) {
                int k = by[i];
                int from = Math.max(start[k], next);
                int to = from + time[k];
                if (to > SLOTS) {
                    return false;
                }
                begin[i] = from;
                sat |= span(from, to);
                waits |= span(start[k], from);
                next = to + rest;
            }
            kept = waits & ~sat;
            return true;
        }

        private int measured(int by) {
            if (by == BY_KEPT) {
                return Long.bitCount(kept);
            }
            int m = 0;
            for (int i = 0; i < count; i++) {
                int late = begin[i] - start[row[i]];
                m = join(by, m, late, begin[i] + time[row[i]]);
            }
            return m;
        }

        /** A measure of the papers so far, and that of one more, which is so late and ends then. */
        static int join(int by, int soFar, int late, int end) {
            switch (by) {
                case 1: return end;
                case 2: return soFar + late;
                case 3: return soFar + (late > 0 ? 1 : 0);
                default: return soFar > late ? soFar : late;
            }
        }

        /** The next row behind this one, as rows are ordered; false behind the last. */
        private boolean nextRow() {
            int i = count - 2;
            while (i >= 0 && row[i] > row[i + 1]) {
                i--;
            }
            if (i < 0) {
                return false;
            }
            int j = count - 1;
            while (j > i + 1 && row[j] < row[i]) {
                j--;
            }
            swap(i, j);
            int low = i + 1;
            int high = count - 1;
            while (low < high) {
                swap(low, high);
                low++;
                high--;
            }
            return true;
        }

        private void swap(int i, int j) {
            int was = row[i];
            row[i] = row[j];
            row[j] = was;
        }
    }

    /** The plans of one candidate, day by day. */
    private static final class Week {
        final boolean[] can = new boolean[DAYS];
        final int[] over = new int[DAYS];
        final int[] free = new int[DAYS];
        final int[] ahead = new int[DAYS];
        final int[] count = new int[DAYS];
        final long[] kept = new long[DAYS];
        final int[] order = new int[DAYS * MAX_OF_DAY];
        final int[] begin = new int[DAYS * MAX_OF_DAY];
        final int[] end = new int[DAYS * MAX_OF_DAY];

        void become(Week other) {
            for (int day = 0; day < DAYS; day++) {
                can[day] = other.can[day];
            }
            System.arraycopy(other.over, 0, over, 0, DAYS);
            System.arraycopy(other.free, 0, free, 0, DAYS);
            System.arraycopy(other.ahead, 0, ahead, 0, DAYS);
            System.arraycopy(other.count, 0, count, 0, DAYS);
            System.arraycopy(other.kept, 0, kept, 0, DAYS);
            System.arraycopy(other.order, 0, order, 0, DAYS * MAX_OF_DAY);
            System.arraycopy(other.begin, 0, begin, 0, DAYS * MAX_OF_DAY);
            System.arraycopy(other.end, 0, end, 0, DAYS * MAX_OF_DAY);
        }

        /** A day on which one can't, until a plan is put. */
        void open(int day, int freeFrom, int aheadOfIt) {
            can[day] = false;
            over[day] = NONE;
            free[day] = freeFrom;
            ahead[day] = aheadOfIt;
            count[day] = 0;
            kept[day] = 0L;
        }

        void put(int day, Orders orders, int goesOver) {
            can[day] = true;
            over[day] = goesOver;
            count[day] = orders.count();
            kept[day] = orders.keptSlots();
            for (int i = 0; i < orders.count() && i < MAX_OF_DAY; i++) {
                int place = day * MAX_OF_DAY + i;
                order[place] = orders.paperAt(i);
                begin[place] = orders.beginAt(i);
                end[place] = orders.endAt(i);
            }
        }

        int cameTo(int day) {
            return day > 0 && day < DAYS ? over[day - 1] : NONE;
        }

        int cants() {
            int n = 0;
            for (int day = 0; day < DAYS; day++) {
                if (!can[day]) {
                    n++;
                }
            }
            return n;
        }

        int keptSlots() {
            int n = 0;
            for (int day = 0; day < DAYS; day++) {
                n += Long.bitCount(kept[day]);
            }
            return n;
        }

        int deed(int day, int slot) {
            if (slot < ahead[day]) {
                return cameTo(day);
            }
            for (int i = 0; i < count[day]; i++) {
                int place = day * MAX_OF_DAY + i;
                if (begin[place] <= slot && slot < end[place]) {
                    return order[place];
                }
            }
            return hasSlot(kept[day], slot) ? IS_KEPT : NONE;
        }

        int measured(Book book, int day, int by) {
            if (by == BY_KEPT) {
                return Long.bitCount(kept[day]);
            }
            int m = 0;
            for (int i = 0; i < count[day]; i++) {
                int place = day * MAX_OF_DAY + i;
                m = Orders.join(by, m, begin[place] - book.startOf[order[place]], end[place]);
            }
            return m;
        }

        /** Whether a paper is begun at another time than its start; one that goes over always is. */
        boolean beginsLate(Book book, int paper) {
            int day = book.dayOf[paper];
            if (over[day] == paper) {
                return true;
            }
            for (int i = 0; i < count[day]; i++) {
                int place = day * MAX_OF_DAY + i;
                if (order[place] == paper) {
                    return begin[place] != book.startOf[paper];
                }
            }
            return false;
        }

        /** The sittings and duties of a day, each as its slots, by their first slot: how many. */
        int piecesOf(int day, long[] into) {
            int n = 0;
            for (int slot = 0; slot < SLOTS; slot++) {
                long piece = pieceFrom(day, slot);
                if (piece != 0L && n < into.length) {
                    into[n] = piece;
                    n++;
                }
            }
            return n;
        }

        private long pieceFrom(int day, int slot) {
            if (slot == 0 && ahead[day] > 0) {
                return span(0, ahead[day]);
            }
            for (int i = 0; i < count[day]; i++) {
                int place = day * MAX_OF_DAY + i;
                if (begin[place] == slot) {
                    return span(slot, end[place]);
                }
            }
            return span(slot, slot + dutyFrom(day, slot));
        }

        /** How many slots the duty has that begins in a slot; 0, if none does. */
        int dutyFrom(int day, int slot) {
            if (slot > 0 && hasSlot(kept[day], slot - 1)) {
                return 0;
            }
            int n = 0;
            for (int t = slot; t < SLOTS && hasSlot(kept[day], t); t++) {
                n++;
            }
            return n;
        }
    }

    /** Plans days, one behind the other. */
    private static final class Planner {
        private final Orders orders = new Orders();

        void planWeek(Book book, int cand, Week week) {
            for (int day = 0; day < DAYS; day++) {
                planDay(book, cand, day, week);
            }
        }

        /**
         * Plans anew from a day on whose papers are other ones now; if the same goes over the night as did,
         * the days behind it stay as they were.
         */
        void replan(Book book, int cand, int from, Week week) {
            boolean same = false;
            for (int day = from; day < DAYS && !same; day++) {
                int was = week.over[day];
                planDay(book, cand, day, week);
                same = week.over[day] == was;
            }
        }

        void planDay(Book book, int cand, int day, Week week) {
            int came = week.cameTo(day);
            int ahead = came == NONE ? 0 : book.timeFor(cand, came);
            int free = came == NONE ? 0 : ahead + book.restFor(cand);
            week.open(day, free, ahead);
            int bits = book.takesOf[cand] & book.papersOf(day);
            orders.gather(book, cand, bits, free, ahead);
            if (orders.search(BY_KEPT, 0L)) {
                week.put(day, orders, NONE);
                return;
            }
            if (book.nightOf[cand] == 0 || day == DAYS - 1) {
                return;
            }
            int fewest = 0;
            for (int p = 0; p < book.papers; p++) {
                if (hasBit(bits, p) && book.timeFor(cand, p) <= Math.min(SLOTS, book.hours)) {
                    orders.gather(book, cand, bits & ~(1 << p), free, ahead);
                    boolean goes = orders.search(BY_KEPT, span(book.startOf[p], SLOTS));
                    if (goes && (!week.can[day] || orders.least() < fewest)) {
                        fewest = orders.least();
                        week.put(day, orders, p);
                    }
                }
            }
        }

        /** The orders of all papers of a day that one takes, as the day ahead leaves it. */
        Orders ordersOf(Book book, int cand, int day, Week week) {
            int bits = book.takesOf[cand] & book.papersOf(day);
            orders.gather(book, cand, bits, week.free[day], week.ahead[day]);
            return orders;
        }

        /** The fewest papers of a day that can't be sat together; of as few the least bits, as they come first. */
        int clash(Book book, int cand, int day, Week week) {
            int bits = book.takesOf[cand] & book.papersOf(day);
            int clash = 0;
            int fewest = MAX_OF_DAY + 1;
            for (int some = 1; some <= bits; some++) {
                if ((some & ~bits) == 0 && Integer.bitCount(some) < fewest) {
                    orders.gather(book, cand, some, week.free[day], week.ahead[day]);
                    if (!orders.search(BY_KEPT, 0L)) {
                        clash = some;
                        fewest = Integer.bitCount(some);
                    }
                }
            }
            return clash;
        }
    }

    /** The weeks of all candidates, planned when they are asked for and kept until something changes. */
    private static final class Weeks {
        private final Planner planner = new Planner();
        private final Week[] weeks = new Week[MAX_CANDS];
        private final boolean[] known = new boolean[MAX_CANDS];
        private int edition = 1;

        Weeks() {
            for (int c = 0; c < MAX_CANDS; c++) {
                weeks[c] = new Week();
            }
        }

        /** The book is the same one at each call; the planner is not the face's, so its orders stay as they are. */
        Week of(Book book, int cand) {
            Week week = weeks[cand];
            if (!known[cand]) {
                for (int day = 0; day < DAYS; day++) {
                    planner.planDay(book, cand, day, week);
                }
                known[cand] = true;
            }
            return week;
        }

        /** Counts what has changed, so that what was made of an earlier edition is seen to be old. */
        int edition() {
            return edition;
        }

        void forgetOthers() {
            edition++;
        }

        void forget(int cand) {
            known[cand] = false;
            edition++;
        }

        void forgetAll() {
            for (int c = 0; c < MAX_CANDS; c++) {
                known[c] = false;
            }
            edition++;
        }
    }

    /** The duties of all, and the watchers that they are given to. */
    private static final class Duties {
        private final int[] candOf = new int[MAX_DUTIES];
        private final int[] dayOf = new int[MAX_DUTIES];
        private final int[] firstOf = new int[MAX_DUTIES];
        private final int[] slotsOf = new int[MAX_DUTIES];
        private final int[] watcherOf = new int[MAX_DUTIES];
        private final int[] freeFrom = new int[MAX_DUTIES];
        private int count;
        private int watchers;
        private int atOnce;
        private int edition;

        int count() {
            return count;
        }

        int watchers() {
            return watchers;
        }

        int atOnce() {
            return atOnce;
        }

        int tell(int i, int what) {
            switch (what) {
                case 0: return candOf[i];
                case 1: return dayOf[i];
                case 2: return firstOf[i];
                case 3: return slotsOf[i];
                default: return watcherOf[i];
            }
        }

        void gather(Book book, Weeks weeks) {
            if (edition == weeks.edition()) {
                return;
            }
            edition = weeks.edition();
            count = 0;
            for (int day = 0; day < DAYS; day++) {
                for (int slot = 0; slot < SLOTS; slot++) {
                    for (int c = 0; c < book.cands; c++) {
                        add(c, day, slot, weeks.of(book, c).dutyFrom(day, slot));
                    }
                }
            }
            giveOut(book.turn);
            countAtOnce(book.turn);
        }

        private void add(int cand, int day, int slot, int slots) {
            if (slots > 0 && count < MAX_DUTIES) {
                candOf[count] = cand;
                dayOf[count] = day;
                firstOf[count] = slot;
                slotsOf[count] = slots;
                count++;
            }
        }

        private int beginOf(int i) {
            return dayOf[i] * SLOTS + firstOf[i];
        }

        private void giveOut(int turn) {
            watchers = 0;
            for (int i = 0; i < count; i++) {
                int watcher = watcherAt(beginOf(i));
                watcherOf[i] = watcher;
                if (watcher != NONE) {
                    freeFrom[watcher] = beginOf(i) + slotsOf[i] + turn;
                }
            }
        }

        /** The watcher for a duty that begins then: of the free ones the one who ended last, or a new one. */
        private int watcherAt(int begin) {
            int watcher = NONE;
            for (int w = 0; w < watchers; w++) {
                if (freeFrom[w] <= begin && (watcher == NONE || freeFrom[w] > freeFrom[watcher])) {
                    watcher = w;
                }
            }
            if (watcher == NONE && watchers < MAX_DUTIES) {
                watcher = watchers;
                watchers++;
            }
            return watcher;
        }

        /** Duties of which each two are near, with their turns behind them, all share the first slot of one of them. */
        private void countAtOnce(int turn) {
            atOnce = 0;
            for (int i = 0; i < count; i++) {
                int n = 0;
                for (int j = 0; j < count; j++) {
                    if (beginOf(j) <= beginOf(i) && beginOf(i) < beginOf(j) + slotsOf[j] + turn) {
                        n++;
                    }
                }
                atOnce = Math.max(atOnce, n);
            }
        }
    }

    /** The seats of one day: candidates by numbers, each with fewest moves. */
    private static final class Seats {
        private static final int NO_WAY = 1000;

        private final int[] used = new int[MAX_ROOMS * SLOTS];
        private final long[] full = new long[MAX_ROOMS];
        private final long[] piece = new long[MAX_PIECES];
        private final int[] pieces = new int[MAX_CANDS];
        private final int[] moves = new int[MAX_CANDS];
        private final int[] room = new int[MAX_CANDS * MAX_PIECES];
        /** The fewest moves from a piece on, if that piece is in a room. */
        private final int[] cost = new int[MAX_PIECES * MAX_ROOMS];
        private int laidDay;
        private int edition;

        int piecesOf(int cand) {
            return pieces[cand];
        }

        int movesOf(int cand) {
            return moves[cand];
        }

        int roomAt(int cand, int i) {
            return i >= 0 && i < MAX_PIECES ? room[cand * MAX_PIECES + i] : NONE;
        }

        int usedAt(int r, int slot) {
            return used[r * SLOTS + slot];
        }

        void lay(Book book, Weeks weeks, int day) {
            if (edition == weeks.edition() && laidDay == day) {
                return;
            }
            edition = weeks.edition();
            laidDay = day;
            for (int i = 0; i < MAX_ROOMS * SLOTS; i++) {
                used[i] = 0;
            }
            for (int r = 0; r < MAX_ROOMS; r++) {
                full[r] = 0L;
            }
            for (int c = 0; c < book.cands; c++) {
                pieces[c] = weeks.of(book, c).piecesOf(day, piece);
                seat(book, c);
            }
        }

        private void seat(Book book, int cand) {
            int n = pieces[cand];
            for (int i = 0; i < n; i++) {
                room[cand * MAX_PIECES + i] = NONE;
            }
            moves[cand] = 0;
            if (n == 0) {
                return;
            }
            countMoves(book.rooms, n);
            int at = firstRoom(book.rooms, 0, NONE);
            moves[cand] = at == NONE ? NONE : cost[at];
            for (int i = 0; i < n && at != NONE; i++) {
                room[cand * MAX_PIECES + i] = at;
                fill(book, at, piece[i]);
                at = i + 1 < n ? firstRoom(book.rooms, i + 1, at) : NONE;
            }
        }

        private void countMoves(int rooms, int n) {
            for (int i = n - 1; i >= 0; i--) {
                for (int r = 0; r < rooms; r++) {
                    cost[i * MAX_ROOMS + r] = costFrom(rooms, n, i, r);
                }
            }
        }

        private int costFrom(int rooms, int n, int i, int r) {
            if ((full[r] & piece[i]) != 0L) {
                return NO_WAY;
            }
            if (i + 1 >= n) {
                return 0;
            }
            int next = firstRoom(rooms, i + 1, r);
            return next == NONE ? NO_WAY : costWith(i + 1, next, r);
        }

        /** The first room for a piece with fewest moves from there on, the one into it counted too. */
        private int firstRoom(int rooms, int i, int from) {
            int first = NONE;
            for (int r = 0; r < rooms; r++) {
                int c = costWith(i, r, from);
                if (c < NO_WAY && (first == NONE || c < costWith(i, first, from))) {
                    first = r;
                }
            }
            return first;
        }

        private int costWith(int i, int r, int from) {
            return cost[i * MAX_ROOMS + r] + (from == NONE || from == r ? 0 : 1);
        }

        private void fill(Book book, int r, long slots) {
            for (int slot = 0; slot < SLOTS; slot++) {
                if (hasSlot(slots, slot)) {
                    int place = r * SLOTS + slot;
                    used[place]++;
                    if (used[place] >= book.seatsOf[r]) {
                        full[r] |= 1L << slot;
                    }
                }
            }
        }
    }
}
