import java.util.Arrays;

/**
 * Stairs as regiments: each flight is a company, each step a man who creaks for his name.
 * The numbered promises of ../shared/DOC.md say what each call answers.
 * Every row is made by the constructor and used again: no call makes an object.
 */
public final class StairRegiment {
    public static final int NONE = -1;

    private static final int TAPE_LIMIT = 400;
    private static final int UNDO_LIMIT = 6;
    private static final int LAST_NIGHT = 9999;
    private static final int NO_PLACE = NONE - 999;

    private final Regiment now = new Regiment();
    private final Regiment kept = new Regiment();
    private boolean isKept;

    private final House[] before = new House[UNDO_LIMIT];
    private final int[] bookBefore = new int[UNDO_LIMIT];
    private int undoNext;
    private int undoCount;

    private final int[] tape = new int[TAPE_LIMIT];
    private int tapeSize;
    private final Parser parser = new Parser();
    private int faultKind;
    private int faultPlace;

    private final Musing musing = new Musing();
    private final Riddles riddles = new Riddles();

    public StairRegiment() {
        for (int i = 0; i < before.length; i++) {
            before[i] = new House();
        }
        faultPlace = NONE;
    }

    // ---- what is told and done

    public int state(int v) {
        int was = now.house.draws;
        now.house.draws = v;
        forgetDeeds();
        return was;
    }

    public int flight(int steps, int height) {
        House house = now.house;
        if (!House.isHeight(height) || !within(steps, 1, House.STEPS) || house.flights >= House.FLIGHTS) {
            return NONE;
        }
        forgetDeeds();
        return house.build(steps, height);
    }

    public boolean set(int what, int flight, int step, int v) {
        if (!now.house.has(flight, step) || !House.mayBeSet(what, v)) {
            return false;
        }
        now.house.put(what, flight, step, v);
        forgetDeeds();
        return true;
    }

    public boolean order(int what, int flight, int step) {
        if (!now.house.has(flight, step) || !within(what, 0, Regiment.LOOSEN)) {
            return false;
        }
        keepBefore();
        Regiment.obey(now.house, what, flight, step);
        return true;
    }

    public int visit(int flight, boolean up, int weight, int stride) {
        if (!now.house.has(flight) || !isVisitor(weight, stride)) {
            return NONE;
        }
        keepBefore();
        return now.tread(now.house, false, flight, up, weight, stride);
    }

    public int nights(int n) {
        if (!within(n, 1, 60) || now.house.night + n > LAST_NIGHT) {
            return NONE;
        }
        int creaked = 0;
        for (int left = n; left > 0; left--) {
            // what lies further back than the last six would be pushed out by them anyway
            if (left <= UNDO_LIMIT) {
                keepBefore();
            }
            creaked += now.passNight(now.house, false);
        }
        return creaked;
    }

    // ---- texts

    public int feed(int a, int b, int c, int d, int e) {
        if (tapeSize + 20 > TAPE_LIMIT) {
            return NONE;
        }
        putBytes(a);
        putBytes(b);
        putBytes(c);
        putBytes(d);
        putBytes(e);
        return tapeSize;
    }

    private void putBytes(int four) {
        for (int shift = 24; shift >= 0; shift -= 8) {
            if (tapeSize >= 0 && tapeSize < tape.length) {
                tape[tapeSize] = (four >>> shift) & 255;
                tapeSize++;
            }
        }
    }

    public boolean end(int n) {
        if (!within(n, 0, tapeSize)) {
            return false;
        }
        tapeSize = n;
        return true;
    }

    public int text(int k) {
        int size = tapeSize;
        // the tape is spent by every text, also by one that there is not
        tapeSize = 0;
        faultKind = 0;
        faultPlace = NONE;
        if (!within(k, Parser.LAW, Parser.DOORS)) {
            return NONE;
        }
        parser.split(tape, size);
        boolean isRead = k == Parser.LAW ? parser.readLaw() : parser.readLines(k, now.house);
        if (!isRead) {
            faultKind = parser.faultKind;
            faultPlace = parser.faultPlace;
            return NONE;
        }
        return takeText(k);
    }

    private int takeText(int k) {
        if (k == Parser.LAW) {
            now.law.copyFrom(parser.law);
            return now.law.count;
        }
        if (k != Parser.DOORS) {
            forgetDeeds();
        }
        Lines lines = k == Parser.ORDERS ? now.orders : k == Parser.VISITS ? now.visits : now.doors;
        lines.copyFrom(parser.lines);
        return lines.count;
    }

    public int fault(int what) {
        return what == 0 ? faultKind : what == 1 ? faultPlace : NONE;
    }

    // ---- what stands

    public int of(int flight, int step, int what) {
        if (!now.house.has(flight, step) || !within(what, 0, 9)) {
            return NONE;
        }
        if (what == 8) {
            return now.law.ask(Law.RISES, now.house, flight, step, 0, 0);
        }
        if (what == 9) {
            return now.doorsOf(flight, step);
        }
        return now.house.get(what, flight, step);
    }

    public int creaks(int flight, int step, int weight, int stride) {
        return asked(Law.CREAKS, flight, step, weight, stride);
    }

    public int wears(int flight, int step, int weight, int stride) {
        return asked(Law.WEARS, flight, step, weight, stride);
    }

    private int asked(int word, int flight, int step, int weight, int stride) {
        if (!now.house.has(flight, step) || !isVisitor(weight, stride)) {
            return NONE;
        }
        return now.law.ask(word, now.house, flight, step, weight, stride);
    }

    public int book(int i, int what) {
        return now.book.at(i, what);
    }

    public int look(int what) {
        switch (what) {
            case 0: return now.house.flights;
            case 1: return now.house.creaked;
            case 2: return now.house.salutes;
            case 3: return now.house.night;
            case 4: return now.book.count;
            case 5: return now.house.draws;
            case 6: return now.law.count;
            case 7: return now.orders.count;
            case 8: return now.visits.count;
            case 9: return now.doors.count;
            case 10: return undoCount;
            default: return NONE;
        }
    }

    // ---- in thought, of flights

    public int goes(int n, int what) {
        if (!within(n, 1, 60) || !within(what, 0, 3)) {
            return NONE;
        }
        return musing.afterNights(now, n, what);
    }

    public int unheard(int flight, int w, int s, int what) {
        if (!now.house.has(flight) || !isVisitor(w, s) || !within(what, 0, 1)) {
            return NONE;
        }
        int cost = musing.quietest(now, flight, w, s);
        if (cost == NONE) {
            return NONE;
        }
        return what == 0 ? cost / Musing.CREAK_COST : cost % Musing.CREAK_COST;
    }

    public int suspect(int weight, int stride) {
        Told told = now.told;
        if (weight == NONE) {
            told.strides.clear();
            return told.weights.clear();
        }
        if (!isVisitor(weight, stride)) {
            return NONE;
        }
        told.strides.add(stride);
        return told.weights.add(weight);
    }

    public int who(int flight, int steps, int what) {
        if (!now.house.hasSet(flight, steps) || !within(what, 0, 1)) {
            return NONE;
        }
        int fits = musing.fitting(now, flight, steps);
        return what == 0 ? fits : musing.tellingStep(now, flight, fits);
    }

    public int roster(int flight, int s, int what) {
        if (!now.house.has(flight) || !within(s, 1, 5) || !within(what, 0, 1)) {
            return NONE;
        }
        int leave = musing.leaveSet(now.house, flight, s);
        return what == 1 || leave == NONE ? leave : Integer.bitCount(leave);
    }

    public int joined(int a, int b, int what) {
        if (!now.house.has(a) || !now.house.has(b) || !within(what, 0, 1)) {
            return NONE;
        }
        return what == 0 ? musing.joinCost(now.house, a, b) : Musing.commonHeights(now.house, a, b);
    }

    public int mutiny(int flight, int steps) {
        if (!now.house.has(flight)) {
            return NONE;
        }
        if (steps == NONE) {
            return Musing.fewestToBegin(now.house, flight);
        }
        if (!now.house.hasSet(flight, steps) || now.house.anyMissing(flight, steps)) {
            return NONE;
        }
        return musing.mutineers(now, flight, steps);
    }

    // ---- in thought, of what is told for it

    public int signer(int row) {
        if (row == NONE) {
            return now.told.signers.clear();
        }
        return Riddles.isPermutation(row, 4) ? now.told.signers.add(row) : NONE;
    }

    public int signs(int what) {
        switch (what) {
            case 0: return Riddles.winner(now.told.signers);
            case 1: return Riddles.topSet(now.told.signers);
            case 2: return Riddles.agreedCouples(now.told.signers);
            default: return NONE;
        }
    }

    public boolean drill(int row) {
        if (!Riddles.isPermutation(row, Told.PLACES)) {
            return false;
        }
        now.told.drillRow = row;
        return true;
    }

    public int drilled(int n, int p) {
        if (p == NONE) {
            return Riddles.roundsOf(now.told.drillRow);
        }
        if (!within(n, 0, 1000000) || !within(p, 0, Told.PLACES - 1)) {
            return NONE;
        }
        return Riddles.standsAt(now.told.drillRow, n, p);
    }

    public int between(int ab, int cd) {
        if (!Riddles.isFraction(ab) || !Riddles.isFraction(cd)) {
            return NONE;
        }
        return Riddles.simplestBetween(ab, cd);
    }

    public int spiral(int n, int what) {
        if (!within(n, 0, 100000) || !within(what, 0, 1)) {
            return NO_PLACE;
        }
        return Riddles.spiralPlace(n, what);
    }

    public int winds(int x, int y) {
        return within(x, -100, 100) && within(y, -100, 100) ? Riddles.spiralStep(x, y) : NONE;
    }

    public int calls(int v) {
        return now.told.numbers.tell(v, 0, 15);
    }

    public int missing(int what) {
        switch (what) {
            case 0: return Riddles.leastUntold(now.told.numbers);
            case 1: return Riddles.onlyOdd(now.told.numbers);
            default: return NONE;
        }
    }

    public int length(int v) {
        return now.told.lengths.tell(v, 1, 60);
    }

    public int runner(int r, int what) {
        if (!within(r, 1, 120) || !within(what, 0, 1)) {
            return NONE;
        }
        return riddles.cutRolls(now.told.lengths, r, what);
    }

    public int wall(int v) {
        return now.told.walls.tell(v, 0, 99);
    }

    public int ramp(int u, int h) {
        if (!within(u, 1, 9) || !within(h, 0, 99)) {
            return NONE;
        }
        return Riddles.rampFoot(now.told.walls, u, h);
    }

    public int box(int abc, int de, int what) {
        if (!within(abc, 0, 999999) || !within(de, 0, 9999) || !within(what, 0, 1)) {
            return NONE;
        }
        int ways = Riddles.waysThrough(abc, de);
        return what == 1 || ways == NONE ? ways : Math.min(ways, 1);
    }

    public int digit(int v) {
        return now.told.digits.tell(v, 0, 9);
    }

    public int cellar(int what) {
        if (what == 10) {
            return riddles.countRows(now.told.digits);
        }
        if (what == 11) {
            return riddles.rankOfRow(now.told.digits);
        }
        return within(what, 0, 9) ? riddles.nextDigit(now.told.digits, what) : NONE;
    }

    public boolean coins(int stair, int v) {
        if (!within(stair, 1, Told.STAIRS) || !within(v, 0, 20)) {
            return false;
        }
        now.told.purse[stair] = v;
        return true;
    }

    public int game(int what) {
        if (!within(what, 0, 1)) {
            return NONE;
        }
        int move = Riddles.goodMove(now.told.purse);
        if (move == NONE) {
            return NONE;
        }
        return what == 0 ? move / 100 : move % 100;
    }

    // ---- undone and gone back to

    public boolean undo() {
        if (undoCount <= 0) {
            return false;
        }
        undoCount--;
        undoNext = Math.floorMod(undoNext - 1, UNDO_LIMIT);
        House old = before[undoNext];
        if (old != null) {
            now.house.copyFrom(old);
        }
        // deeds only write behind the last line, so the count alone brings the book back
        now.book.count = bookBefore[undoNext];
        return true;
    }

    public boolean image(boolean taken) {
        if (taken) {
            kept.copyFrom(now);
            isKept = true;
            return true;
        }
        if (!isKept) {
            return false;
        }
        now.copyFrom(kept);
        forgetDeeds();
        return true;
    }

    private void keepBefore() {
        int at = Math.floorMod(undoNext, UNDO_LIMIT);
        House old = before[at];
        if (old != null) {
            old.copyFrom(now.house);
        }
        bookBefore[at] = now.book.count;
        undoNext = Math.floorMod(at + 1, UNDO_LIMIT);
        undoCount = Math.min(undoCount + 1, UNDO_LIMIT);
    }

    private void forgetDeeds() {
        undoCount = 0;
    }

    private static boolean within(int v, int low, int high) {
        return v >= low && v <= high;
    }

    private static boolean isVisitor(int weight, int stride) {
        return within(weight, 1, 200) && within(stride, 1, 5);
    }

    /** The men of all flights and what deeds change: what UNDO gives back, and what thought tries out. */
    private static final class House {
        static final int FLIGHTS = 6;
        static final int STEPS = 16;
        static final int MEN = FLIGHTS * STEPS;

        static final int HEIGHT = 0;
        static final int WEAR = 1;
        static final int LOOSE = 2;
        static final int RANK = 3;
        static final int POST = 4;
        static final int CARPET = 5;
        static final int HEARD = 6;
        static final int FAILED = 7;
        static final int HEARD_AT_PROMOTION = 8;
        static final int TRAITS = 9;

        static final int WATCH = 0;
        static final int GONE = 2;

        // trait by trait, so that one copy takes all
        private final int[] men = new int[TRAITS * MEN];
        private final int[] sizes = new int[FLIGHTS];
        int flights;
        int salutes;
        int creaked;
        int night;
        int draws;

        void copyFrom(House other) {
            System.arraycopy(other.men, 0, men, 0, men.length);
            System.arraycopy(other.sizes, 0, sizes, 0, sizes.length);
            flights = other.flights;
            salutes = other.salutes;
            creaked = other.creaked;
            night = other.night;
            draws = other.draws;
        }

        static boolean isHeight(int v) {
            return within(v, 5, 40);
        }

        static boolean mayBeSet(int trait, int v) {
            switch (trait) {
                case HEIGHT: return isHeight(v);
                case WEAR: return within(v, 0, 99);
                case LOOSE:
                case RANK: return within(v, 0, 9);
                default: return false;
            }
        }

        int build(int steps, int height) {
            if (!within(flights, 0, FLIGHTS - 1)) {
                return NONE;
            }
            int built = flights;
            sizes[built] = steps;
            flights++;
            for (int step = 0; step < steps; step++) {
                put(HEIGHT, built, step, height);
            }
            return built;
        }

        boolean has(int flight) {
            return within(flight, 0, flights - 1);
        }

        boolean has(int flight, int step) {
            return has(flight) && within(step, 0, size(flight) - 1);
        }

        boolean hasSet(int flight, int steps) {
            return has(flight) && steps >= 0 && steps < (1 << size(flight));
        }

        int size(int flight) {
            return within(flight, 0, sizes.length - 1) ? sizes[flight] : 0;
        }

        int get(int trait, int flight, int step) {
            int at = trait * MEN + flight * STEPS + step;
            return at >= 0 && at < men.length ? men[at] : 0;
        }

        void put(int trait, int flight, int step, int v) {
            int at = trait * MEN + flight * STEPS + step;
            if (at >= 0 && at < men.length) {
                men[at] = v;
            }
        }

        void raise(int trait, int flight, int step, int by) {
            put(trait, flight, step, get(trait, flight, step) + by);
        }

        void raiseTo(int trait, int flight, int step, int by, int most) {
            put(trait, flight, step, Math.min(get(trait, flight, step) + by, most));
        }

        boolean isMissing(int flight, int step) {
            return get(POST, flight, step) == GONE;
        }

        boolean anyMissing(int flight, int steps) {
            for (int step = 0; step < size(flight); step++) {
                if ((steps >> step & 1) == 1 && isMissing(flight, step)) {
                    return true;
                }
            }
            return false;
        }

        int sum(int trait) {
            int all = 0;
            for (int flight = 0; flight < flights; flight++) {
                for (int step = 0; step < size(flight); step++) {
                    all += get(trait, flight, step);
                }
            }
            return all;
        }

        int countMissing() {
            int all = 0;
            for (int flight = 0; flight < flights; flight++) {
                for (int step = 0; step < size(flight); step++) {
                    all += isMissing(flight, step) ? 1 : 0;
                }
            }
            return all;
        }

        int draw(int m) {
            draws = draws * 1664525 + 1013904223;
            return m > 0 ? (draws >>> 8) % m : 0;
        }
    }

    /** THE BOOK: once it is full, it takes no more. */
    private static final class Book {
        static final int LINES = 150;
        static final int CELLS = 4;

        static final int CREAKED = 0;
        static final int FAILED = 1;
        static final int SALUTED = 2;
        static final int PROMOTED = 3;
        static final int DESERTED = 4;

        private final int[] cells = new int[LINES * CELLS];
        int count;

        void copyFrom(Book other) {
            System.arraycopy(other.cells, 0, cells, 0, cells.length);
            count = other.count;
        }

        void write(int night, int what, int flight, int step, int much) {
            if (!within(count, 0, LINES - 1)) {
                return;
            }
            int at = count * CELLS;
            cells[at] = night;
            cells[at + 1] = what;
            cells[at + 2] = 100 * flight + step;
            cells[at + 3] = much;
            count++;
        }

        int at(int line, int cell) {
            if (!within(line, 0, Math.min(count, LINES) - 1) || !within(cell, 0, CELLS - 1)) {
                return NONE;
            }
            return cells[line * CELLS + cell];
        }
    }

    /** THE LAW, each line as code for a stack: first its E, behind it its B, if it has one. */
    private static final class Law {
        static final int CREAKS = 0;
        static final int WEARS = 1;
        static final int RISES = 2;

        static final int NUMBER = 0;
        static final int FACT = 1;
        static final int PLUS = 2;
        static final int MINUS = 3;
        static final int TIMES = 4;
        static final int PART = 5;
        static final int LESS = 6;
        static final int SAME = 7;
        static final int MORE = 8;
        static final int NOT = 9;
        static final int AND = 10;
        static final int OR = 11;

        static final int FACTS = 11;
        // nine conditions, one in the other, hold two values each, and the innermost comparison four more
        static final int STACK = 32;

        private final int[] code = new int[TAPE_LIMIT];
        private int used;
        private final int[] words = new int[Lines.LINES];
        private final int[] starts = new int[Lines.LINES];
        private final int[] whens = new int[Lines.LINES];
        private final int[] stops = new int[Lines.LINES];
        int count;
        private final int[] facts = new int[FACTS];
        private final int[] stack = new int[STACK];

        void copyFrom(Law other) {
            System.arraycopy(other.code, 0, code, 0, code.length);
            System.arraycopy(other.words, 0, words, 0, words.length);
            System.arraycopy(other.starts, 0, starts, 0, starts.length);
            System.arraycopy(other.whens, 0, whens, 0, whens.length);
            System.arraycopy(other.stops, 0, stops, 0, stops.length);
            used = other.used;
            count = other.count;
        }

        void clear() {
            used = 0;
            count = 0;
        }

        boolean isFull() {
            return !within(count, 0, Lines.LINES - 1);
        }

        void beginLine(int word) {
            if (!isFull()) {
                words[count] = word;
                starts[count] = used;
            }
        }

        void beginWhen() {
            if (!isFull()) {
                whens[count] = used;
            }
        }

        void endLine() {
            if (!isFull()) {
                stops[count] = used;
                count++;
            }
        }

        void put(int act, int operand) {
            if (used >= 0 && used < code.length) {
                code[used] = operand << 4 | act;
                used++;
            }
        }

        int ask(int word, House house, int flight, int step, int weight, int stride) {
            learn(house, flight, step, weight, stride);
            for (int line = 0; line < count && line < Lines.LINES; line++) {
                if (words[line] != word) {
                    continue;
                }
                if (whens[line] >= stops[line] || run(whens[line], stops[line]) != 0) {
                    return held(word, run(starts[line], whens[line]));
                }
            }
            return held(word, unwritten(word));
        }

        /** The facts in the order of their keywords in Parser.WORDS. */
        private void learn(House house, int flight, int step, int weight, int stride) {
            facts[0] = weight;
            facts[1] = house.get(House.WEAR, flight, step);
            facts[2] = house.get(House.LOOSE, flight, step);
            facts[3] = house.get(House.RANK, flight, step);
            facts[4] = house.get(House.CARPET, flight, step);
            facts[5] = house.get(House.HEIGHT, flight, step);
            facts[6] = step;
            facts[7] = house.get(House.HEARD, flight, step);
            facts[8] = house.get(House.FAILED, flight, step);
            facts[9] = stride;
            facts[10] = house.night;
        }

        private int run(int from, int to) {
            int top = 0;
            for (int i = Math.max(from, 0); i < to && i < code.length; i++) {
                int act = code[i] & 15;
                int operand = code[i] >> 4;
                if (act == NUMBER || act == FACT) {
                    if (top < stack.length) {
                        boolean isFact = act == FACT && operand >= 0 && operand < facts.length;
                        stack[top] = isFact ? facts[operand] : operand;
                        top++;
                    }
                } else if (act == NOT || act == PART) {
                    if (top > 0) {
                        stack[top - 1] = act == NOT ? 1 - stack[top - 1] : part(stack[top - 1], operand);
                    }
                } else if (top > 1) {
                    top--;
                    stack[top - 1] = combine(act, stack[top - 1], stack[top]);
                }
            }
            return top > 0 ? stack[0] : 0;
        }

        private static int part(int v, int by) {
            return by > 0 ? v / by : 0;
        }

        private static int combine(int act, int a, int b) {
            switch (act) {
                case PLUS: return a + b;
                case MINUS: return a - b;
                case TIMES: return a * b;
                case LESS: return a < b ? 1 : 0;
                case SAME: return a == b ? 1 : 0;
                case MORE: return a > b ? 1 : 0;
                case AND: return a & b;
                default: return a | b;
            }
        }

        private int unwritten(int word) {
            return word == CREAKS ? facts[0] + 5 * facts[1] + 50 * facts[2] - 300 * facts[4] : 1;
        }

        private static int held(int word, int v) {
            int most = word == CREAKS ? 1000 : word == WEARS ? 99 : 9;
            return Math.max(0, Math.min(v, most));
        }
    }

    /** The lines of ORDERS, VISITS or DOORS. */
    private static final class Lines {
        static final int LINES = 16;
        static final int CELLS = 5;

        // ORDERS: NIGHT FLIGHT STEP WHAT. VISITS: NIGHT FLIGHT UP WEIGHT STRIDE. DOORS: FLIGHT STEP FLIGHT STEP.
        private final int[] cells = new int[LINES * CELLS];
        int count;

        void copyFrom(Lines other) {
            System.arraycopy(other.cells, 0, cells, 0, cells.length);
            count = other.count;
        }

        boolean isFull() {
            return !within(count, 0, LINES - 1);
        }

        int at(int line, int cell) {
            int at = line * CELLS + cell;
            return within(at, 0, cells.length - 1) ? cells[at] : 0;
        }

        /** Writes a cell of the line that is not counted yet. */
        void draft(int cell, int v) {
            int at = count * CELLS + cell;
            if (within(at, 0, cells.length - 1)) {
                cells[at] = v;
            }
        }
    }

    /** Reads the TAPE into a law or lines of its own: what stood before stays till a text is whole. */
    private static final class Parser {
        static final int LAW = 0;
        static final int ORDERS = 1;
        static final int VISITS = 2;
        static final int DOORS = 3;

        // a keyword's kind is its place in these rows, first to last; a sign's kind is its own number, which lies above
        static final String LAW_WORDS =
            "creaks wears rises when or and not weight wear loose rank carpet height number heard failed stride night ";
        static final String LINE_WORDS = "on flight step watch leave desert bare mend loosen up down door ";
        static final int WHEN = 3;
        static final int OR = 4;
        static final int AND = 5;
        static final int NOT = 6;
        static final int WEIGHT = 7;
        static final int CARPET = 11;
        static final int STRIDE = 16;
        static final int FIRST_FACT = 7;
        static final int LAST_FACT = 17;
        static final int FIRST_LINE_WORD = 18;
        static final int ON = 18;
        static final int FLIGHT = 19;
        static final int STEP = 20;
        static final int WATCH = 21;
        static final int LEAVE = 22;
        static final int DESERT = 23;
        static final int BARE = 24;
        static final int MEND = 25;
        static final int LOOSEN = 26;
        static final int UP = 27;
        static final int DOWN = 28;
        static final int DOOR = 29;
        static final int NUMBER = 64;
        static final int WRONG = 65;
        static final int FINISH = 66;

        static final int CANNOT_STAND = 1;
        static final int OUT_OF_BOUNDS = 2;
        static final int TOO_MANY = 3;
        static final int MOST_OPEN = 8;

        private final int[] kinds = new int[TAPE_LIMIT + 1];
        private final int[] values = new int[TAPE_LIMIT + 1];
        private final int[] places = new int[TAPE_LIMIT + 1];
        private int count;
        private int at;
        private int number;
        int faultKind;
        int faultPlace;
        final Law law = new Law();
        final Lines lines = new Lines();

        // -- tokens

        void split(int[] tape, int tapeSize) {
            int size = Math.min(tapeSize, tape.length);
            count = 0;
            at = 0;
            faultKind = 0;
            faultPlace = NONE;
            int from = 0;
            while (from < size) {
                int sign = tape[from];
                int to = from + 1;
                if (isLetter(sign)) {
                    while (to < size && isLetter(tape[to])) {
                        to++;
                    }
                    addToken(keyword(tape, from, to), 0, from);
                } else if (isDigit(sign)) {
                    while (to < size && isDigit(tape[to])) {
                        to++;
                    }
                    addToken(to - from <= 4 ? NUMBER : WRONG, valueOf(tape, from, Math.min(to, from + 4)), from);
                } else if (sign != ' ' && sign != 10) {
                    addToken(isSign(sign) ? sign : WRONG, 0, from);
                }
                from = to;
            }
            addToken(FINISH, 0, size);
        }

        private void addToken(int kind, int value, int place) {
            if (within(count, 0, kinds.length - 1)) {
                kinds[count] = kind;
                values[count] = value;
                places[count] = place;
                count++;
            }
        }

        private static boolean isLetter(int sign) {
            return within(sign, 'a', 'z') || within(sign, 'A', 'Z');
        }

        private static boolean isDigit(int sign) {
            return within(sign, '0', '9');
        }

        private static boolean isSign(int sign) {
            return within(sign, '(', '+') || within(sign, ';', '>') || sign == '-' || sign == '/';
        }

        private static int valueOf(int[] tape, int from, int to) {
            int value = 0;
            for (int i = Math.max(from, 0); i < to && i < tape.length; i++) {
                value = value * 10 + tape[i] - '0';
            }
            return value;
        }

        private static int keyword(int[] tape, int from, int to) {
            int word = wordIn(LAW_WORDS, tape, from, to);
            if (word != NONE) {
                return word;
            }
            word = wordIn(LINE_WORDS, tape, from, to);
            return word == NONE ? WRONG : FIRST_LINE_WORD + word;
        }

        /** Which of the words, each with a blank behind it, stands on the tape there. */
        private static int wordIn(String words, int[] tape, int from, int to) {
            int word = 0;
            int next = from;
            boolean isAlike = true;
            for (int i = 0; i < words.length(); i++) {
                char letter = words.charAt(i);
                if (letter != ' ') {
                    isAlike = isAlike && next >= 0 && next < to && next < tape.length && tape[next] == letter;
                    next++;
                } else if (isAlike && next == to) {
                    return word;
                } else {
                    word++;
                    next = from;
                    isAlike = true;
                }
            }
            return NONE;
        }

        private int kind() {
            return at >= 0 && at < count && at < kinds.length ? kinds[at] : FINISH;
        }

        private boolean fail(int kind) {
            faultKind = kind;
            faultPlace = at >= 0 && at < places.length ? places[at] : 0;
            return false;
        }

        private boolean take(int kind) {
            if (kind() != kind) {
                return fail(CANNOT_STAND);
            }
            at++;
            return true;
        }

        /** Takes a NUMBER, which is kept in number. */
        private boolean takeNumber(int low, int high) {
            if (kind() != NUMBER) {
                return fail(CANNOT_STAND);
            }
            int value = at >= 0 && at < values.length ? values[at] : 0;
            if (value < low || value > high) {
                return fail(OUT_OF_BOUNDS);
            }
            number = value;
            at++;
            return true;
        }

        // -- the law

        boolean readLaw() {
            law.clear();
            for (int line = 0; line <= Lines.LINES && kind() != FINISH; line++) {
                int word = kind();
                if (!within(word, Law.CREAKS, Law.RISES)) {
                    return fail(CANNOT_STAND);
                }
                if (law.isFull()) {
                    return fail(TOO_MANY);
                }
                at++;
                law.beginLine(word);
                if (!readSum()) {
                    return false;
                }
                law.beginWhen();
                if (kind() == WHEN) {
                    at++;
                    if (!readCondition(0)) {
                        return false;
                    }
                }
                if (!take(';')) {
                    return false;
                }
                law.endLine();
            }
            return true;
        }

        /** B: what is joined by and is closed before what is joined by or. */
        private boolean readCondition(int open) {
            boolean isBehindAnd = false;
            boolean isBehindOr = false;
            while (at < count) {
                if (!readComparison(open)) {
                    return false;
                }
                if (isBehindAnd) {
                    law.put(Law.AND, 0);
                }
                isBehindAnd = kind() == AND;
                if (!isBehindAnd) {
                    if (isBehindOr) {
                        law.put(Law.OR, 0);
                    }
                    if (kind() != OR) {
                        return true;
                    }
                    isBehindOr = true;
                }
                at++;
            }
            return false;
        }

        /** C, with so many brackets and nots open around it. */
        private boolean readComparison(int open) {
            int first = kind();
            if (first == NOT || first == '(') {
                if (open >= MOST_OPEN) {
                    return fail(TOO_MANY);
                }
                at++;
                if (first == '(') {
                    return readCondition(open + 1) && take(')');
                }
                if (!readComparison(open + 1)) {
                    return false;
                }
                law.put(Law.NOT, 0);
                return true;
            }
            if (!readSum()) {
                return false;
            }
            int sign = kind();
            if (!within(sign, '<', '>')) {
                return fail(CANNOT_STAND);
            }
            at++;
            if (!readSum()) {
                return false;
            }
            law.put(sign == '<' ? Law.LESS : sign == '=' ? Law.SAME : Law.MORE, 0);
            return true;
        }

        private boolean readSum() {
            int sign = 0;
            while (at < count) {
                if (!readProduct()) {
                    return false;
                }
                if (sign != 0) {
                    law.put(sign == '+' ? Law.PLUS : Law.MINUS, 0);
                }
                sign = kind();
                if (sign != '+' && sign != '-') {
                    return true;
                }
                at++;
            }
            return false;
        }

        private boolean readProduct() {
            boolean isBehindTimes = false;
            while (at < count) {
                if (within(kind(), FIRST_FACT, LAST_FACT)) {
                    law.put(Law.FACT, kind() - FIRST_FACT);
                    at++;
                } else if (takeNumber(0, 9999)) {
                    law.put(Law.NUMBER, number);
                } else {
                    return false;
                }
                if (isBehindTimes) {
                    law.put(Law.TIMES, 0);
                }
                while (at < count && kind() == '/') {
                    at++;
                    if (!takeNumber(1, 9999)) {
                        return false;
                    }
                    law.put(Law.PART, number);
                }
                if (kind() != '*') {
                    return true;
                }
                isBehindTimes = true;
                at++;
            }
            return false;
        }

        // -- orders, visits, doors

        boolean readLines(int k, House house) {
            lines.count = 0;
            for (int line = 0; line <= Lines.LINES && kind() != FINISH; line++) {
                if (kind() == (k == DOORS ? FLIGHT : ON) && lines.isFull()) {
                    return fail(TOO_MANY);
                }
                boolean isRead = k == ORDERS ? readOrder(house) : k == VISITS ? readVisit(house) : readDoor(house);
                if (!isRead || !take(';')) {
                    return false;
                }
                lines.count++;
            }
            return true;
        }

        private boolean readOrder(House house) {
            if (!readNight() || !readFlight(FLIGHT, house, 1, NONE) || !readStep(house, 2)) {
                return false;
            }
            int what = orderOf(kind());
            if (what == NONE) {
                return fail(CANNOT_STAND);
            }
            at++;
            lines.draft(3, what);
            return true;
        }

        private boolean readVisit(House house) {
            if (!readNight() || !readFlight(FLIGHT, house, 1, NONE)) {
                return false;
            }
            if (kind() != UP && kind() != DOWN) {
                return fail(CANNOT_STAND);
            }
            lines.draft(2, kind() == UP ? 1 : 0);
            at++;
            return readBounded(WEIGHT, 3, 1, 200) && readBounded(STRIDE, 4, 1, 5);
        }

        private boolean readDoor(House house) {
            return readFlight(FLIGHT, house, 0, NONE) && readStep(house, 1)
                && readFlight(DOOR, house, 2, lines.at(lines.count, 0)) && readStep(house, 3);
        }

        private boolean readNight() {
            return readBounded(ON, 0, 0, 999);
        }

        private boolean readFlight(int word, House house, int cell, int other) {
            if (!take(word)) {
                return false;
            }
            if (kind() == NUMBER && at >= 0 && at < values.length && values[at] == other) {
                return fail(OUT_OF_BOUNDS);
            }
            if (!takeNumber(0, house.flights - 1)) {
                return false;
            }
            lines.draft(cell, number);
            return true;
        }

        /** A STEP of the FLIGHT that was read just before it. */
        private boolean readStep(House house, int cell) {
            return readBounded(STEP, cell, 0, house.size(number) - 1);
        }

        private boolean readBounded(int word, int cell, int low, int high) {
            if (!take(word) || !takeNumber(low, high)) {
                return false;
            }
            lines.draft(cell, number);
            return true;
        }

        private static int orderOf(int kind) {
            switch (kind) {
                case WATCH: return Regiment.WATCH;
                case LEAVE: return Regiment.LEAVE;
                case DESERT: return Regiment.DESERT;
                case CARPET: return Regiment.CARPET;
                case BARE: return Regiment.BARE;
                case MEND: return Regiment.MEND;
                case LOOSEN: return Regiment.LOOSEN;
                default: return NONE;
            }
        }
    }

    /** Numbers told one by one, up to a bound. */
    private static final class Row {
        private final int[] cells;
        int count;

        Row(int most) {
            cells = new int[Math.max(most, 0)];
        }

        void copyFrom(Row other) {
            System.arraycopy(other.cells, 0, cells, 0, Math.min(cells.length, other.cells.length));
            count = other.count;
        }

        int clear() {
            count = 0;
            return 0;
        }

        int add(int v) {
            if (!within(count, 0, cells.length - 1)) {
                return NONE;
            }
            cells[count] = v;
            count++;
            return count;
        }

        int tell(int v, int low, int high) {
            if (v == NONE) {
                return clear();
            }
            return within(v, low, high) ? add(v) : NONE;
        }

        int at(int i) {
            return within(i, 0, cells.length - 1) ? cells[i] : 0;
        }
    }

    /** What is told for thought alone. */
    private static final class Told {
        static final int PLACES = 8;
        static final int STAIRS = 8;

        final Row weights = new Row(8);
        final Row strides = new Row(8);
        final Row signers = new Row(7);
        final Row numbers = new Row(12);
        final Row lengths = new Row(7);
        final Row walls = new Row(8);
        final Row digits = new Row(10);
        int drillRow = 1234567;
        // stairs count from 1 on: place 0 is the ground
        final int[] purse = new int[STAIRS + 1];

        void copyFrom(Told other) {
            weights.copyFrom(other.weights);
            strides.copyFrom(other.strides);
            signers.copyFrom(other.signers);
            numbers.copyFrom(other.numbers);
            lengths.copyFrom(other.lengths);
            walls.copyFrom(other.walls);
            digits.copyFrom(other.digits);
            drillRow = other.drillRow;
            System.arraycopy(other.purse, 0, purse, 0, purse.length);
        }
    }

    /** All that THE IMAGE holds, and how nights go by it. */
    private static final class Regiment {
        static final int WATCH = 0;
        static final int LEAVE = 1;
        static final int DESERT = 2;
        static final int CARPET = 3;
        static final int BARE = 4;
        static final int MEND = 5;
        static final int LOOSEN = 6;

        final House house = new House();
        final Book book = new Book();
        final Law law = new Law();
        final Lines orders = new Lines();
        final Lines visits = new Lines();
        final Lines doors = new Lines();
        final Told told = new Told();

        void copyFrom(Regiment other) {
            house.copyFrom(other.house);
            book.copyFrom(other.book);
            law.copyFrom(other.law);
            orders.copyFrom(other.orders);
            visits.copyFrom(other.visits);
            doors.copyFrom(other.doors);
            told.copyFrom(other.told);
        }

        int doorsOf(int flight, int step) {
            int named = 0;
            for (int line = 0; line < doors.count; line++) {
                boolean isFirst = doors.at(line, 0) == flight && doors.at(line, 1) == step;
                boolean isSecond = doors.at(line, 2) == flight && doors.at(line, 3) == step;
                named += isFirst || isSecond ? 1 : 0;
            }
            return named;
        }

        static void obey(House men, int what, int flight, int step) {
            switch (what) {
                case CARPET: men.put(House.CARPET, flight, step, 1); break;
                case BARE: men.put(House.CARPET, flight, step, 0); break;
                case MEND: men.put(House.LOOSE, flight, step, 0); break;
                case LOOSEN: men.raiseTo(House.LOOSE, flight, step, 1, 9); break;
                // the first three orders bear the numbers of the posts
                default: men.put(House.POST, flight, step, what); break;
            }
        }

        /** A NIGHT of these men; in thought nothing is drawn and nothing is booked. */
        int passNight(House men, boolean inThought) {
            for (int line = 0; line < orders.count; line++) {
                if (orders.at(line, 0) == men.night) {
                    obey(men, orders.at(line, 3), orders.at(line, 1), orders.at(line, 2));
                }
            }
            int creaked = 0;
            for (int line = 0; line < visits.count; line++) {
                if (visits.at(line, 0) == men.night) {
                    boolean up = visits.at(line, 2) == 1;
                    creaked += tread(men, inThought, visits.at(line, 1), up, visits.at(line, 3), visits.at(line, 4));
                }
            }
            for (int flight = 0; flight < men.flights; flight++) {
                for (int step = 0; step < men.size(flight); step++) {
                    dawn(men, inThought, flight, step);
                }
            }
            men.night++;
            return creaked;
        }

        int tread(House men, boolean inThought, int flight, boolean up, int weight, int stride) {
            int size = men.size(flight);
            int pace = Math.max(stride, 1);
            int creaked = 0;
            for (int gone = pace; gone < size + pace; gone += pace) {
                int step = up ? gone - 1 : size - 1 - (gone - pace);
                if (within(step, 0, size - 1) && treadOne(men, inThought, flight, step, weight, stride)) {
                    creaked++;
                }
            }
            return creaked;
        }

        private boolean treadOne(House men, boolean inThought, int flight, int step, int weight, int stride) {
            if (men.isMissing(flight, step)) {
                men.salutes++;
                note(men, inThought, Book.SALUTED, flight, step, 0);
                return false;
            }
            int likely = law.ask(Law.CREAKS, men, flight, step, weight, stride);
            boolean isHeard = inThought ? likely >= Musing.CREAKS_FROM : likely > 0 && men.draw(1000) < likely;
            boolean isOnWatch = men.get(House.POST, flight, step) == House.WATCH;
            if (isHeard) {
                men.creaked++;
                note(men, inThought, Book.CREAKED, flight, step, weight);
            } else if (isOnWatch) {
                note(men, inThought, Book.FAILED, flight, step, weight);
            }
            if (isOnWatch) {
                men.raise(isHeard ? House.HEARD : House.FAILED, flight, step, 1);
            }
            men.raiseTo(House.WEAR, flight, step, law.ask(Law.WEARS, men, flight, step, weight, stride), 99);
            return isHeard;
        }

        private void dawn(House men, boolean inThought, int flight, int step) {
            int heard = men.get(House.HEARD, flight, step);
            if (heard - men.get(House.HEARD_AT_PROMOTION, flight, step) >= 3) {
                men.raiseTo(House.RANK, flight, step, law.ask(Law.RISES, men, flight, step, 0, 0), 9);
                men.put(House.HEARD_AT_PROMOTION, flight, step, heard);
                note(men, inThought, Book.PROMOTED, flight, step, men.get(House.RANK, flight, step));
            }
            int failed = men.get(House.FAILED, flight, step);
            if (failed > 5 && failed > heard && !men.isMissing(flight, step)) {
                men.put(House.POST, flight, step, House.GONE);
                note(men, inThought, Book.DESERTED, flight, step, failed);
            }
        }

        private void note(House men, boolean inThought, int what, int flight, int step, int much) {
            if (!inThought) {
                book.write(men.night, what, flight, step, much);
            }
        }
    }

    /** Thoughts about flights. The rows are for one call's use. */
    private static final class Musing {
        static final int CREAKS_FROM = 500;
        // one creak outweighs all steps that a flight can have
        static final int CREAK_COST = 100;
        static final int FAR = 1000000;
        static final int MOST_STRIDE = 5;

        private final House tried = new House();
        private final int[] costs = new int[House.STEPS + 1];
        private final int[] otherCosts = new int[House.STEPS + 1];
        private final int[] sets = new int[MOST_STRIDE];
        private final int[] nextSets = new int[MOST_STRIDE];
        private final int[] beside = new int[House.MEN];
        private final int[] queue = new int[House.MEN];
        private int queued;

        int afterNights(Regiment regiment, int n, int what) {
            tried.copyFrom(regiment.house);
            for (int i = 0; i < n; i++) {
                regiment.passNight(tried, true);
            }
            switch (what) {
                case 0: return tried.sum(House.HEARD);
                case 1: return tried.sum(House.FAILED);
                case 2: return tried.salutes;
                default: return tried.countMissing();
            }
        }

        private static boolean wouldCreak(Regiment regiment, House men, int flight, int step, int weight, int stride) {
            return regiment.law.ask(Law.CREAKS, men, flight, step, weight, stride) >= CREAKS_FROM;
        }

        /** CREAK_COST times the fewest that creak and the fewest STEPS then; NONE if one can't go up. */
        int quietest(Regiment regiment, int flight, int weight, int mostStride) {
            int size = Math.min(regiment.house.size(flight), House.STEPS);
            // costs[p]: what is still to come for one who stands just below STEP p
            for (int from = size; from >= 0; from--) {
                costs[from] = FAR;
                for (int stride = 1; stride <= mostStride; stride++) {
                    costs[from] = Math.min(costs[from], strideCost(regiment, flight, from, weight, stride));
                }
            }
            return costs[0] >= FAR ? NONE : costs[0];
        }

        private int strideCost(Regiment regiment, int flight, int from, int weight, int stride) {
            int step = from - 1 + stride;
            if (step >= regiment.house.size(flight)) {
                return 0;
            }
            if (!within(step, 0, costs.length - 2) || regiment.house.isMissing(flight, step)) {
                return FAR;
            }
            int creak = wouldCreak(regiment, regiment.house, flight, step, weight, stride) ? CREAK_COST : 0;
            return Math.min(FAR, creak + 1 + costs[step + 1]);
        }

        private static boolean makesCreak(Regiment regiment, House men, int flight, int step, int suspect) {
            int stride = Math.max(regiment.told.strides.at(suspect), 1);
            if ((step + 1) % stride != 0 || men.isMissing(flight, step)) {
                return false;
            }
            return wouldCreak(regiment, men, flight, step, regiment.told.weights.at(suspect), stride);
        }

        int fitting(Regiment regiment, int flight, int steps) {
            int fits = 0;
            for (int suspect = 0; suspect < regiment.told.weights.count; suspect++) {
                int heard = 0;
                for (int step = 0; step < regiment.house.size(flight); step++) {
                    heard |= makesCreak(regiment, regiment.house, flight, step, suspect) ? 1 << step : 0;
                }
                fits |= heard == steps ? 1 << suspect : 0;
            }
            return fits;
        }

        int tellingStep(Regiment regiment, int flight, int fits) {
            tried.copyFrom(regiment.house);
            for (int step = 0; step < tried.size(flight); step++) {
                // a STEP is asked by what it is itself alone, so that it may stay looser
                tried.raiseTo(House.LOOSE, flight, step, 1, 9);
                int creaking = 0;
                for (int suspect = 0; suspect < regiment.told.weights.count; suspect++) {
                    boolean isFitting = (fits >> suspect & 1) == 1;
                    if (isFitting && makesCreak(regiment, tried, flight, step, suspect)) {
                        creaking |= 1 << suspect;
                    }
                }
                if (creaking != 0 && creaking != fits) {
                    return step;
                }
            }
            return NONE;
        }

        /** The least of the largest sets on leave; NONE if the missing leave too wide a gap. */
        int leaveSet(House house, int flight, int s) {
            // sets[g]: the best set so far with g STEPS behind the last one on watch
            int gaps = Math.max(1, Math.min(s, MOST_STRIDE));
            Arrays.fill(sets, NONE);
            sets[0] = 0;
            for (int step = 0; step < house.size(flight); step++) {
                boolean isMissing = house.isMissing(flight, step);
                Arrays.fill(nextSets, NONE);
                for (int gap = 0; gap < gaps; gap++) {
                    int leave = sets[gap];
                    if (leave == NONE) {
                        continue;
                    }
                    if (!isMissing) {
                        nextSets[0] = betterSet(nextSets[0], leave);
                    }
                    if (gap + 1 < gaps) {
                        nextSets[gap + 1] = betterSet(nextSets[gap + 1], isMissing ? leave : leave | 1 << step);
                    }
                }
                System.arraycopy(nextSets, 0, sets, 0, sets.length);
            }
            int best = NONE;
            for (int gap = 0; gap < gaps; gap++) {
                best = betterSet(best, sets[gap]);
            }
            return best;
        }

        private static int betterSet(int a, int b) {
            if (a == NONE || b == NONE) {
                return Math.max(a, b);
            }
            int more = Integer.bitCount(a) - Integer.bitCount(b);
            if (more != 0) {
                return more > 0 ? a : b;
            }
            return Math.min(a, b);
        }

        int joinCost(House house, int a, int b) {
            int sizeB = Math.min(house.size(b), House.STEPS);
            // costs[j]: the least for the STEPS of a so far and the first j of b
            costs[0] = 0;
            for (int j = 1; j <= sizeB; j++) {
                costs[j] = costs[j - 1] + house.get(House.HEIGHT, b, j - 1);
            }
            for (int i = 0; i < house.size(a); i++) {
                int high = house.get(House.HEIGHT, a, i);
                System.arraycopy(costs, 0, otherCosts, 0, costs.length);
                costs[0] = otherCosts[0] + high;
                for (int j = 1; j <= sizeB; j++) {
                    int other = house.get(House.HEIGHT, b, j - 1);
                    int alone = Math.min(otherCosts[j] + high, costs[j - 1] + other);
                    costs[j] = Math.min(alone, otherCosts[j - 1] + Math.abs(high - other));
                }
            }
            return costs[sizeB];
        }

        static int commonHeights(House house, int a, int b) {
            int common = 0;
            int highA = 0;
            for (int i = 0; i < house.size(a); i++) {
                highA += house.get(House.HEIGHT, a, i);
                int highB = 0;
                for (int j = 0; j < house.size(b) && highB < highA; j++) {
                    highB += house.get(House.HEIGHT, b, j);
                }
                common += highA == highB ? 1 : 0;
            }
            return common;
        }

        private static int willOf(House house, int flight, int step) {
            return Math.max(1, house.get(House.RANK, flight, step));
        }

        int mutineers(Regiment regiment, int flight, int steps) {
            Arrays.fill(beside, 0);
            queued = 0;
            for (int step = 0; step < regiment.house.size(flight); step++) {
                if ((steps >> step & 1) == 1) {
                    beginMutiny(flight * House.STEPS + step);
                }
            }
            // each man is queued once, so the queue ends
            for (int i = 0; i < queued && i < queue.length; i++) {
                int man = queue[i];
                int itsFlight = man / House.STEPS;
                int itsStep = man % House.STEPS;
                urge(regiment.house, itsFlight, itsStep - 1);
                urge(regiment.house, itsFlight, itsStep + 1);
                urgeThroughDoors(regiment, itsFlight, itsStep);
            }
            return queued;
        }

        private void beginMutiny(int man) {
            if (within(man, 0, beside.length - 1) && within(queued, 0, queue.length - 1)) {
                // far above each RANK: he does not join twice
                beside[man] = FAR;
                queue[queued] = man;
                queued++;
            }
        }

        private void urge(House house, int flight, int step) {
            int man = flight * House.STEPS + step;
            if (!house.has(flight, step) || house.isMissing(flight, step) || !within(man, 0, beside.length - 1)) {
                return;
            }
            beside[man]++;
            if (beside[man] == willOf(house, flight, step)) {
                beginMutiny(man);
            }
        }

        private void urgeThroughDoors(Regiment regiment, int flight, int step) {
            Lines doors = regiment.doors;
            int man = 100 * flight + step;
            for (int line = 0; line < doors.count; line++) {
                int other = doorFrom(doors, line, man);
                boolean isNew = other != NONE;
                for (int earlier = 0; earlier < line && isNew; earlier++) {
                    isNew = doorFrom(doors, earlier, man) != other;
                }
                if (isNew) {
                    urge(regiment.house, other / 100, other % 100);
                }
            }
        }

        private static int doorFrom(Lines doors, int line, int man) {
            int first = 100 * doors.at(line, 0) + doors.at(line, 1);
            int second = 100 * doors.at(line, 2) + doors.at(line, 3);
            return first == man ? second : second == man ? first : NONE;
        }

        /**
         * Of two side by side one joins ahead of the other; any such choice along a flight can be, so that a man need
         * begin only if fewer beside him are ahead of him than he wants.
         */
        static int fewestToBegin(House house, int flight) {
            // the fewest so far, if the next man is not, or is, behind the one below him
            int alone = 0;
            int behind = FAR;
            for (int step = 0; step < house.size(flight); step++) {
                if (house.isMissing(flight, step)) {
                    continue;
                }
                int will = willOf(house, flight, step);
                int unhelped = Math.min(alone + (will > 0 ? 1 : 0), behind + (will > 1 ? 1 : 0));
                int helped = Math.min(alone + (will > 1 ? 1 : 0), behind + (will > 2 ? 1 : 0));
                boolean hasNext = house.has(flight, step + 1) && !house.isMissing(flight, step + 1);
                alone = hasNext ? helped : unhelped;
                behind = hasNext ? unhelped : FAR;
            }
            return Math.min(alone, behind);
        }
    }

    /** Thoughts about what is told for them. The rows are for one call's use. */
    private static final class Riddles {
        static final int STANDING = 4;
        static final int DIGITS = 10;
        static final int MOST_LENGTHS = 7;

        private final int[] needs = new int[1 << MOST_LENGTHS];
        private final int[] rolls = new int[1 << MOST_LENGTHS];
        private final int[] next = new int[DIGITS];
        private final int[] amounts = new int[DIGITS];

        /** Whether a number's digits, so many, are 0 .. digits - 1, each once. */
        static boolean isPermutation(int row, int digits) {
            if (row < 0) {
                return false;
            }
            int rest = row;
            int seen = 0;
            for (int i = 0; i < digits; i++) {
                seen |= 1 << rest % 10;
                rest /= 10;
            }
            return rest == 0 && seen == (1 << digits) - 1;
        }

        // -- BLIND

        private static int placeOf(int row, int one) {
            int rest = row;
            for (int place = STANDING - 1; place > 0; place--) {
                if (rest % 10 == one) {
                    return place;
                }
                rest /= 10;
            }
            return 0;
        }

        /** With how many signers a stands before b. */
        private static int before(Row signers, int a, int b) {
            int before = 0;
            for (int i = 0; i < signers.count; i++) {
                before += placeOf(signers.at(i), a) < placeOf(signers.at(i), b) ? 1 : 0;
            }
            return before;
        }

        /** Whether each one in the set is before each one not in it with more than half. */
        private static boolean isAhead(Row signers, int set) {
            for (int a = 0; a < STANDING; a++) {
                for (int b = 0; b < STANDING; b++) {
                    boolean isCouple = (set >> a & 1) == 1 && (set >> b & 1) == 0;
                    if (isCouple && 2 * before(signers, a, b) <= signers.count) {
                        return false;
                    }
                }
            }
            return true;
        }

        static int winner(Row signers) {
            for (int one = 0; one < STANDING; one++) {
                if (isAhead(signers, 1 << one)) {
                    return one;
                }
            }
            return NONE;
        }

        static int topSet(Row signers) {
            int all = (1 << STANDING) - 1;
            int top = all;
            for (int set = 1; set < all; set++) {
                if (Integer.bitCount(set) < Integer.bitCount(top) && isAhead(signers, set)) {
                    top = set;
                }
            }
            return top;
        }

        static int agreedCouples(Row signers) {
            if (signers.count == 0) {
                return 0;
            }
            int agreed = 0;
            for (int a = 0; a < STANDING; a++) {
                for (int b = 0; b < STANDING; b++) {
                    agreed += a != b && before(signers, a, b) == signers.count ? 1 : 0;
                }
            }
            return agreed;
        }

        // -- DRILL

        private static int placeBefore(int row, int place) {
            int rest = row;
            for (int i = Told.PLACES - 1; i > place; i--) {
                rest /= 10;
            }
            return rest % 10;
        }

        /** Behind how many times the man of a place first stands there again. */
        private static int roundOf(int row, int place) {
            int stands = placeBefore(row, place);
            int times = 1;
            while (stands != place && times < Told.PLACES) {
                stands = placeBefore(row, stands);
                times++;
            }
            return times;
        }

        static int roundsOf(int row) {
            int rounds = 1;
            for (int place = 0; place < Told.PLACES; place++) {
                int round = Math.max(1, roundOf(row, place));
                int both = rounds;
                for (int i = 1; i < round && both % round != 0; i++) {
                    both += rounds;
                }
                rounds = both;
            }
            return rounds;
        }

        static int standsAt(int row, int n, int place) {
            int left = n % Math.max(1, roundOf(row, place));
            int stands = place;
            for (int i = 0; i < left; i++) {
                stands = placeBefore(row, stands);
            }
            return stands;
        }

        // -- HALVES

        static boolean isFraction(int ab) {
            return within(ab, 1, 9999) && ab % 100 != 0;
        }

        static int simplestBetween(int ab, int cd) {
            int side = (ab / 100) * (cd % 100) - (cd / 100) * (ab % 100);
            if (side == 0) {
                return NONE;
            }
            int low = side < 0 ? ab : cd;
            int high = side < 0 ? cd : ab;
            int lowBelow = Math.max(low % 100, 1);
            // above with above by below with below lies between, so that below goes no further than 198
            for (int below = 1; below <= 198; below++) {
                int above = (low / 100) * below / lowBelow + 1;
                if (above * (high % 100) < (high / 100) * below) {
                    return 1000 * above + below;
                }
            }
            return NONE;
        }

        // -- SPIRAL: ring k begins right of the last one's end, at k, 1 - k

        private static int ringStart(int ring) {
            return (2 * ring - 1) * (2 * ring - 1);
        }

        static int spiralPlace(int n, int what) {
            if (n <= 0) {
                return 0;
            }
            int ring = 1;
            while (ring < 1000 && ringStart(ring + 1) <= n) {
                ring++;
            }
            // counted from the corner below right, each side is two rings long
            int along = n - ringStart(ring) + 1;
            int side = along / (2 * ring);
            int on = along % (2 * ring);
            switch (side) {
                case 0: return what == 0 ? ring : on - ring;
                case 1: return what == 0 ? ring - on : ring;
                case 2: return what == 0 ? -ring : ring - on;
                case 3: return what == 0 ? on - ring : -ring;
                default: return what == 0 ? ring : -ring;
            }
        }

        static int spiralStep(int x, int y) {
            int ring = Math.max(Math.abs(x), Math.abs(y));
            if (ring == 0) {
                return 0;
            }
            int corner = ringStart(ring) - 1;
            if (y == -ring) {
                return corner + 7 * ring + x;
            }
            if (x == ring) {
                return corner + ring + y;
            }
            if (y == ring) {
                return corner + 3 * ring - x;
            }
            return corner + 5 * ring - y;
        }

        // -- MISSING

        static int leastUntold(Row numbers) {
            int told = 0;
            for (int i = 0; i < numbers.count; i++) {
                told |= 1 << numbers.at(i);
            }
            return Integer.numberOfTrailingZeros(~told);
        }

        static int onlyOdd(Row numbers) {
            int odd = 0;
            for (int i = 0; i < numbers.count; i++) {
                odd ^= 1 << numbers.at(i);
            }
            return Integer.bitCount(odd) == 1 ? Integer.numberOfTrailingZeros(odd) : NONE;
        }

        // -- RUNNER

        int cutRolls(Row lengths, int roll, int what) {
            int all = (1 << Math.min(lengths.count, MOST_LENGTHS)) - 1;
            if (all == 0) {
                return 0;
            }
            weigh(lengths, all);
            for (int set = 1; set <= all; set++) {
                rolls[set] = fewestRolls(set, roll);
            }
            if (rolls[all] >= Musing.FAR) {
                return NONE;
            }
            return what == 0 ? rolls[all] : mostLeft(all, roll);
        }

        private void weigh(Row lengths, int all) {
            for (int set = 1; set <= all; set++) {
                int first = Integer.numberOfTrailingZeros(set);
                int rest = set & (set - 1);
                needs[set] = lengths.at(first) + (rest == 0 ? 0 : 1 + needs[rest]);
            }
        }

        private int fewestRolls(int set, int roll) {
            int fewest = Musing.FAR;
            for (int cut = set; cut > 0; cut = (cut - 1) & set) {
                int rest = set ^ cut;
                if (needs[cut] <= roll) {
                    fewest = Math.min(fewest, 1 + (rest == 0 ? 0 : rolls[rest]));
                }
            }
            return fewest;
        }

        private int mostLeft(int all, int roll) {
            int most = 0;
            for (int cut = 1; cut <= all; cut++) {
                int others = cut == all ? 0 : rolls[all ^ cut];
                if (needs[cut] <= roll && others + 1 == rolls[all]) {
                    most = Math.max(most, roll - needs[cut]);
                }
            }
            return most;
        }

        // -- RAMP

        static int rampFoot(Row walls, int u, int h) {
            for (int i = 0; i < walls.count; i++) {
                // a ramp that never falls must stay below h, and can't be higher than u a foot
                if (walls.at(i) > h || walls.at(i) > u * (i + 1)) {
                    return NONE;
                }
            }
            return Math.max(walls.count, u > 0 ? (h + u - 1) / u : 0);
        }

        // -- BOX

        static int waysThrough(int abc, int de) {
            int a = abc / 10000;
            int b = abc / 100 % 100;
            int c = abc % 100;
            int d = de / 100;
            int e = de % 100;
            if (a == 0 || b == 0 || c == 0 || d == 0 || e == 0) {
                return NONE;
            }
            return waysOfSide(a, b, d, e) + waysOfSide(b, c, d, e) + waysOfSide(a, c, d, e);
        }

        private static int waysOfSide(int a, int b, int d, int e) {
            return (a <= d && b <= e ? 1 : 0) + (b <= d && a <= e ? 1 : 0);
        }

        // -- CELLAR

        int nextDigit(Row digits, int place) {
            int size = Math.min(digits.count, DIGITS);
            for (int i = 0; i < size; i++) {
                next[i] = digits.at(i);
            }
            return within(place, 0, size - 1) && goToNext(size) ? next[place] : NONE;
        }

        private boolean goToNext(int size) {
            int turn = size - 2;
            while (turn >= 0 && next[turn] >= next[turn + 1]) {
                turn--;
            }
            if (turn < 0) {
                return false;
            }
            int greater = size - 1;
            while (greater > turn && next[greater] <= next[turn]) {
                greater--;
            }
            swapNext(turn, greater);
            for (int low = turn + 1, high = size - 1; low < high; low++, high--) {
                swapNext(low, high);
            }
            return true;
        }

        private void swapNext(int i, int j) {
            if (within(i, 0, next.length - 1) && within(j, 0, next.length - 1)) {
                int was = next[i];
                next[i] = next[j];
                next[j] = was;
            }
        }

        private void countDigits(Row digits) {
            Arrays.fill(amounts, 0);
            for (int i = 0; i < digits.count; i++) {
                int digit = digits.at(i);
                if (within(digit, 0, DIGITS - 1)) {
                    amounts[digit]++;
                }
            }
        }

        /** How many rows there are of the digits in amounts. */
        private int countArranged() {
            int rows = 1;
            int placed = 0;
            for (int digit = 0; digit < DIGITS; digit++) {
                for (int i = 1; i <= amounts[digit]; i++) {
                    placed++;
                    // each such step is a binomial's, so that the part has no rest
                    rows = rows * placed / i;
                }
            }
            return rows;
        }

        int countRows(Row digits) {
            countDigits(digits);
            return countArranged();
        }

        int rankOfRow(Row digits) {
            countDigits(digits);
            int rank = 0;
            for (int place = 0; place < digits.count; place++) {
                int digit = digits.at(place);
                for (int less = 0; less < digit && less < DIGITS; less++) {
                    if (amounts[less] > 0) {
                        amounts[less]--;
                        rank += countArranged();
                        amounts[less]++;
                    }
                }
                if (within(digit, 0, DIGITS - 1)) {
                    amounts[digit]--;
                }
            }
            return rank;
        }

        // -- GAME: who carries to a stair with an even number can be answered at once, so the odd ones alone count

        static int goodMove(int[] purse) {
            int odd = 0;
            for (int stair = 1; stair < purse.length; stair += 2) {
                odd ^= purse[stair];
            }
            if (odd == 0) {
                return NONE;
            }
            for (int stair = 1; stair < purse.length; stair++) {
                int heap = stair % 2 == 1 ? stair : stair - 1;
                int carried = stair % 2 == 1 ? purse[heap] - (purse[heap] ^ odd) : (purse[heap] ^ odd) - purse[heap];
                if (carried > 0 && carried <= purse[stair]) {
                    return 100 * stair + carried;
                }
            }
            return NONE;
        }
    }
}
