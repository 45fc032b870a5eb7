/**
 * A plane of yes and no that was seen from two sides alone: the totals of its rows and of its
 * columns, some cells being sure besides. The words in capitals are those of the document.
 *
 * <p>A PLANE is held as an int, CELL 0 in its highest bit (see {@link #bitOf}), so that planes
 * compare as the document numbers ANSWERS. A set of COLUMNS is held likewise, in five bits.
 */
public final class TwoViews {
    public static final int UNKNOWN = -1, OUTSIDE = -2, STATE = -3, FULL = -4, NONE = -9;

    private static final int MOST_ROWS = 4, MOST_COLUMNS = 5, MOST_CELLS = 20, MOST_PINS = 6;
    private static final int MOST_LETTERS = 40, MOST_ACTS = 14, MOST_SEEN = 6, SLOTS = 2;
    private static final int MOST_DOINGS = 3, MOST_DRAWS = 20, TENTHS = 10;
    private static final int PINNED_YES = 1, PINNED_NO = 2;
    private static final int OPEN = 2;

    /** No totals have more: ROWS 2, 3, 3, 2 and COLUMNS of 2 each, found by counting all planes. */
    private static final int MOST_ANSWERS = 310;

    /** What a look for a refusal answers where there is none. */
    private static final int FINE = 0;

    private static final int NO_PLANE = -1;

    private static final long FACTOR = 6364136223846793005L, ADDEND = 1442695040888963407L;

    /** By how many doings there are behind one: what its last figure counts. */
    private static final long[] DOING_UNITS = {1L, 100000L, 10000000000L, 1000000000000000L};

    private final Board now = new Board();
    private final Board trial = new Board();
    private final Letters text = new Letters();
    private final Acts acts = new Acts();
    private final Filling filling = new Filling();
    private final Walk walk = new Walk();
    private final PinSets pinSets = new PinSets();
    private final Sheet[] slots = new Sheet[SLOTS];
    private final boolean[] isKept = new boolean[SLOTS];
    private int seenYes;
    private int seenNo;
    private int seenCount;
    private long theSeed;

    public TwoViews() {
        for (int slot = 0; slot < SLOTS; slot++) {
            slots[slot] = new Sheet();
        }
        now.settle();
    }

    // ---- the sheet

    public int write(int letter) {
        if (letter < 0 || letter > 255) {
            return OUTSIDE;
        }
        return text.append(letter) ? text.length : FULL;
    }

    public int wipe() {
        int length = text.length;
        text.length = 0;
        return length;
    }

    public int fault() {
        return text.readSheet();
    }

    public int sheet() {
        if (text.readSheet() != NONE) {
            return STATE;
        }
        now.sheet.become(text.draft);
        now.sheet.plane = NO_PLANE;
        now.settle();
        acts.length = 0;
        for (int slot = 0; slot < SLOTS; slot++) {
            isKept[slot] = false;
        }
        return now.list.size;
    }

    public int total(int side, int i) {
        if (side != 0 && side != 1) {
            return OUTSIDE;
        }
        return now.sheet.hasTotal(side, i) ? now.sheet.totalOf(side, i) : UNKNOWN;
    }

    public int pin(int cell) {
        return now.sheet.hasCell(cell) ? now.sheet.pinOf(cell) : UNKNOWN;
    }

    // ---- the test

    public int test() {
        return filling.failsAt(now.sheet);
    }

    public int filled(int cell) {
        if (!now.sheet.hasCell(cell)) {
            return UNKNOWN;
        }
        if (filling.failsAt(now.sheet) != NONE) {
            return STATE;
        }
        return yesIn(filling.fill(now.sheet), cell);
    }

    public int mended(int what) {
        if (what != 0 && what != 1) {
            return OUTSIDE;
        }
        if (filling.failsAt(now.sheet) == NONE) {
            return what == 0 ? 0 : NONE;
        }
        trial.sheet.become(now.sheet);
        int found = 0;
        int least = NONE;
        for (int side = 0; side <= 1; side++) {
            for (int i = 0; i < trial.sheet.totalCount(side); i++) {
                int before = trial.sheet.totalOf(side, i);
                for (int v = 0; v <= trial.sheet.mostTotal(side); v++) {
                    trial.sheet.putTotal(side, i, v);
                    if (filling.failsAt(trial.sheet) == NONE) {
                        found++;
                        least = least == NONE ? 100 * side + 10 * i + v : least;
                    }
                }
                trial.sheet.putTotal(side, i, before);
            }
        }
        return what == 0 ? found : least;
    }

    // ---- answers

    public int answers() {
        return now.list.size;
    }

    public int cell(int cell, int what) {
        if (!now.sheet.hasCell(cell)) {
            return UNKNOWN;
        }
        switch (what) {
            case 0:
                return now.planeAt(cell);
            case 1:
                return now.list.sureAt(cell);
            case 2:
                return now.list.yesAt(cell);
            default:
                return OUTSIDE;
        }
    }

    public int odds(int cell, boolean upper) {
        if (!now.sheet.hasCell(cell)) {
            return UNKNOWN;
        }
        if (now.list.size == 0) {
            return STATE;
        }
        return inLeastTerms(now.list.yesAt(cell), now.list.size, upper);
    }

    public int ask(int what) {
        if (what != 0 && what != 1) {
            return OUTSIDE;
        }
        int asked = NONE;
        int least = NONE;
        for (int cell = 0; cell < now.sheet.cells(); cell++) {
            if (now.list.sureAt(cell) == OPEN) {
                int yes = now.list.yesAt(cell);
                int greater = Math.max(yes, now.list.size - yes);
                if (asked == NONE || greater < least) {
                    asked = cell;
                    least = greater;
                }
            }
        }
        return what == 0 ? asked : least;
    }

    public int plane() {
        return now.list.numberOf(now.sheet.plane);
    }

    // ---- acts

    public int go(int k) {
        if (k < 0 || k >= now.list.size) {
            return UNKNOWN;
        }
        int before = now.sheet.plane;
        acts.add(now.sheet);
        now.sheet.plane = now.list.planes[k];
        return Integer.bitCount(before ^ now.sheet.plane);
    }

    public int swap(int r, int s, int c, int d) {
        int refusal = now.switchRefusal(r, s, c, d);
        if (refusal != FINE) {
            return refusal;
        }
        acts.add(now.sheet);
        now.makeSwitch(r, s, c, d);
        return now.sheet.switchCount();
    }

    public int setTotal(int side, int i, int v) {
        int refusal = now.totalRefusal(side, i, v);
        if (refusal != FINE) {
            return refusal;
        }
        acts.add(now.sheet);
        now.sheet.putTotal(side, i, v);
        now.settle();
        return now.list.size;
    }

    public int setPin(int cell, int v) {
        int refusal = now.pinRefusal(cell, v);
        if (refusal != FINE) {
            return refusal;
        }
        acts.add(now.sheet);
        now.sheet.putPin(cell, v);
        now.settle();
        return now.list.size;
    }

    public int undo() {
        if (acts.length == 0) {
            return STATE;
        }
        acts.takeBack(now.sheet);
        now.settle();
        return acts.length;
    }

    // ---- switches

    public int switches(int what) {
        if (what != 0 && what != 1) {
            return OUTSIDE;
        }
        return what == 0 ? now.sheet.switchCount() : now.sheet.firstSwitch();
    }

    public int reached() {
        walk.goFrom(now);
        return walk.found;
    }

    public int apart(int slot) {
        if (slot < 0 || slot >= SLOTS) {
            return UNKNOWN;
        }
        if (!isKept[slot]) {
            return STATE;
        }
        Sheet kept = slots[slot];
        if (kept.h != now.sheet.h || kept.w != now.sheet.w) {
            return NONE;
        }
        walk.goFrom(now);
        return walk.stepsTo(now.list.numberOf(kept.plane));
    }

    public int key(int what) {
        if (what != 0 && what != 1) {
            return OUTSIDE;
        }
        int key = now.findKey();
        if (key == NONE || what == 1) {
            return key;
        }
        int cells = 0;
        for (int rest = key; rest > 0; rest /= 100) {
            cells++;
        }
        return cells;
    }

    public int judge(int n, long row) {
        if (n < 1 || n > MOST_DOINGS || row < 0 || row >= DOING_UNITS[n]) {
            return OUTSIDE;
        }
        trial.sheet.become(now.sheet);
        trial.settle();
        for (int i = 0; i < n; i++) {
            long behind = DOING_UNITS[n - 1 - i];
            int doing = (int) (row / behind % DOING_UNITS[1]);
            if (!trial.takes(doing)) {
                return i;
            }
        }
        return NONE;
    }

    // ---- seen

    public int see(int cell, int v) {
        if (cell < 0 || cell >= MOST_CELLS || (v != 0 && v != 1)) {
            return OUTSIDE;
        }
        if (seenCount >= MOST_SEEN) {
            return FULL;
        }
        if (v == 1) {
            seenYes |= bitOf(cell);
        } else {
            seenNo |= bitOf(cell);
        }
        seenCount++;
        return seenCount;
    }

    public int unsee() {
        int before = seenCount;
        seenYes = 0;
        seenNo = 0;
        seenCount = 0;
        return before;
    }

    public int which(int what) {
        if (what != 0 && what != 1) {
            return OUTSIDE;
        }
        int found = 0;
        int least = NONE;
        for (int k = 0; k < now.list.size; k++) {
            int answer = now.list.planes[k];
            // A CELL that is not on THE SHEET has a bit that is never set, so it "was not".
            if ((answer & seenYes) == seenYes && (answer & seenNo) == 0) {
                found++;
                least = least == NONE ? k : least;
            }
        }
        return what == 0 ? found : least;
    }

    // ---- shares, chances

    public int share(int cell, boolean upper) {
        if (!now.sheet.hasCell(cell)) {
            return UNKNOWN;
        }
        if (now.sheet.pinOf(cell) == 0) {
            return STATE;
        }
        pinSets.weigh(now);
        return inLeastTerms(pinSets.fewerInAllOrders(cell), pinSets.orders(pinSets.pins), upper);
    }

    public int loose(int x, boolean upper) {
        if (x < 0 || x > TENTHS) {
            return OUTSIDE;
        }
        pinSets.weigh(now);
        return inLeastTerms(pinSets.chancesOfOne(x), power(TENTHS, pinSets.pins), upper);
    }

    public long seed(long v) {
        long before = theSeed;
        theSeed = v;
        return before;
    }

    public int drawn(int m) {
        if (m < 1 || m > MOST_DRAWS) {
            return OUTSIDE;
        }
        int plane = now.sheet.plane;
        int together = 0;
        for (int i = 0; i < m; i++) {
            theSeed = theSeed * FACTOR + ADDEND;
            plane = drawSwitch(plane, (int) (theSeed >>> 33));
            together += Math.max(0, now.list.numberOf(plane));
        }
        return together;
    }

    private int drawSwitch(int plane, int v) {
        Sheet sheet = now.sheet;
        int r = remainder(v, sheet.h);
        int s = remainder(v / 4, sheet.h);
        int c = remainder(v / 16, sheet.w);
        int d = remainder(v / 128, sheet.w);
        boolean can = plane != NO_PLANE && sheet.isSwitch(plane, r, s, c, d);
        return can ? sheet.switched(plane, r, s, c, d) : plane;
    }

    // ---- slots

    public int keep(int slot) {
        if (slot < 0 || slot >= SLOTS) {
            return UNKNOWN;
        }
        slots[slot].become(now.sheet);
        isKept[slot] = true;
        return now.sheet.cells();
    }

    public int again(int slot) {
        if (slot < 0 || slot >= SLOTS) {
            return UNKNOWN;
        }
        if (!isKept[slot]) {
            return STATE;
        }
        now.sheet.become(slots[slot]);
        now.settle();
        acts.length = 0;
        return now.sheet.cells();
    }

    public int count(int what) {
        switch (what) {
            case 0:
                return text.length;
            case 1:
                return now.sheet.h;
            case 2:
                return now.sheet.w;
            case 3:
                return now.sheet.pinCount();
            case 4:
                return now.sheet.plane == NO_PLANE ? 0 : Integer.bitCount(now.sheet.plane);
            case 5:
                return Integer.bitCount(now.list.openCells());
            case 6:
                return acts.length;
            case 7:
                return seenCount;
            case 8:
                return now.sheet.together(0);
            case 9:
                return now.sheet.together(1);
            default:
                return OUTSIDE;
        }
    }

    // ---- numbers and bits

    private static int bitOf(int cell) {
        return 1 << (MOST_CELLS - 1 - cell);
    }

    private static int columnBit(int c) {
        return 1 << (MOST_COLUMNS - 1 - c);
    }

    private static int yesIn(int plane, int cell) {
        return (plane & bitOf(cell)) != 0 ? 1 : 0;
    }

    /** The least of CELLS that are a set, NONE of an empty one. */
    private static int leastCell(int cells) {
        for (int cell = 0; cell < MOST_CELLS; cell++) {
            if ((cells & bitOf(cell)) != 0) {
                return cell;
            }
        }
        return NONE;
    }

    private static int remainder(int v, int by) {
        return by > 0 ? v % by : 0;
    }

    private static int power(int base, int times) {
        int power = 1;
        for (int i = 0; i < times; i++) {
            power *= base;
        }
        return power;
    }

    private static int inLeastTerms(int above, int below, boolean upper) {
        int common = Math.max(1, greatestDivisor(above, below));
        return upper ? above / common : below / common;
    }

    private static int greatestDivisor(int above, int below) {
        int a = above;
        int b = below;
        // Each two turns halve b at least, so 64 turns are enough for any int.
        for (int turn = 0; turn < 64 && b != 0; turn++) {
            int rest = a % b;
            a = b;
            b = rest;
        }
        return a;
    }

    /** THE SHEET, and THE PLANE that lies on it: all that an ACT can change, or a SLOT keep. */
    private static final class Sheet {
        int h = 1;
        int w = 1;
        private final int[] rowTotals = new int[MOST_ROWS];
        private final int[] columnTotals = new int[MOST_COLUMNS];
        int pinned;
        int pinnedYes;
        int plane;

        void become(Sheet other) {
            h = other.h;
            w = other.w;
            System.arraycopy(other.rowTotals, 0, rowTotals, 0, MOST_ROWS);
            System.arraycopy(other.columnTotals, 0, columnTotals, 0, MOST_COLUMNS);
            pinned = other.pinned;
            pinnedYes = other.pinnedYes;
            plane = other.plane;
        }

        int cells() {
            return h * w;
        }

        boolean hasRow(int r) {
            return r >= 0 && r < h;
        }

        boolean hasColumn(int c) {
            return c >= 0 && c < w;
        }

        boolean hasCell(int cell) {
            return cell >= 0 && cell < cells();
        }

        int totalCount(int side) {
            return side == 0 ? h : w;
        }

        boolean hasTotal(int side, int i) {
            return i >= 0 && i < totalCount(side);
        }

        int mostTotal(int side) {
            return side == 0 ? w : h;
        }

        int totalOf(int side, int i) {
            int[] totals = side == 0 ? rowTotals : columnTotals;
            return i >= 0 && i < totals.length ? totals[i] : 0;
        }

        void putTotal(int side, int i, int v) {
            int[] totals = side == 0 ? rowTotals : columnTotals;
            if (i >= 0 && i < totals.length) {
                totals[i] = v;
            }
        }

        int together(int side) {
            int sum = 0;
            for (int i = 0; i < totalCount(side); i++) {
                sum += totalOf(side, i);
            }
            return sum;
        }

        /** All TOTALS in one number, another one for others. */
        long totalsAsNumber() {
            long number = 8L * h + w;
            for (int side = 0; side <= 1; side++) {
                for (int i = 0; i < totalCount(side); i++) {
                    number = 8L * number + totalOf(side, i);
                }
            }
            return number;
        }

        int pinOf(int cell) {
            if ((pinned & bitOf(cell)) == 0) {
                return 0;
            }
            return (pinnedYes & bitOf(cell)) != 0 ? PINNED_YES : PINNED_NO;
        }

        void putPin(int cell, int v) {
            int bit = bitOf(cell);
            pinned = v == 0 ? pinned & ~bit : pinned | bit;
            pinnedYes = v == PINNED_YES ? pinnedYes | bit : pinnedYes & ~bit;
        }

        int pinCount() {
            return Integer.bitCount(pinned);
        }

        int bitAt(int r, int c) {
            return bitOf(w * r + c);
        }

        /** A set of COLUMNS as CELLS of a ROW, at its place in a PLANE. */
        int placed(int columns, int r) {
            return columns << (MOST_CELLS - MOST_COLUMNS - w * r);
        }

        /** The COLUMNS in which a ROW of a PLANE is yes. */
        int columnsOf(int somePlane, int r) {
            int wide = somePlane >>> (MOST_CELLS - MOST_COLUMNS - w * r);
            int columns = -1 << (MOST_COLUMNS - w);
            return wide & columns & ((1 << MOST_COLUMNS) - 1);
        }

        /** The COLUMNS that ROW r could give up to ROW s in a SWITCH. */
        int giving(int somePlane, int r, int s) {
            int fixed = columnsOf(pinned, r) | columnsOf(pinned, s);
            return columnsOf(somePlane, r) & ~columnsOf(somePlane, s) & ~fixed;
        }

        boolean isSwitch(int somePlane, int r, int s, int c, int d) {
            return (giving(somePlane, r, s) & columnBit(c)) != 0
                    && (giving(somePlane, s, r) & columnBit(d)) != 0;
        }

        int switched(int somePlane, int r, int s, int c, int d) {
            return somePlane ^ (bitAt(r, c) | bitAt(s, d) | bitAt(r, d) | bitAt(s, c));
        }

        int switchCount() {
            if (plane == NO_PLANE) {
                return 0;
            }
            int found = 0;
            for (int r = 0; r < h; r++) {
                for (int s = r + 1; s < h; s++) {
                    found += Integer.bitCount(giving(plane, r, s)) * Integer.bitCount(giving(plane, s, r));
                }
            }
            return found;
        }

        int firstSwitch() {
            if (plane == NO_PLANE) {
                return NONE;
            }
            for (int r = 0; r < h; r++) {
                for (int s = r + 1; s < h; s++) {
                    int c = firstColumn(giving(plane, r, s));
                    int d = firstColumn(giving(plane, s, r));
                    if (c != NONE && d != NONE) {
                        return 1000 * r + 100 * s + 10 * c + d;
                    }
                }
            }
            return NONE;
        }

        private int firstColumn(int columns) {
            for (int c = 0; c < w; c++) {
                if ((columns & columnBit(c)) != 0) {
                    return c;
                }
            }
            return NONE;
        }
    }

    /** THE TEXT, and the SHEET that it tells. */
    private static final class Letters {
        private final int[] letters = new int[MOST_LETTERS];
        int length;
        final Sheet draft = new Sheet();

        boolean append(int letter) {
            if (length >= MOST_LETTERS) {
                return false;
            }
            letters[length] = letter;
            length++;
            return true;
        }

        /**
         * FAULT of THE TEXT; if it is NONE, the draft is the SHEET. A letter that is not there and
         * one that can not be there are faults alike: at the place where another one was due.
         */
        int readSheet() {
            if (letterAt(0) != 'P') {
                return 0;
            }
            draft.h = figureAt(1, 1, MOST_ROWS);
            if (draft.h == NONE) {
                return 1;
            }
            draft.w = figureAt(2, 1, MOST_COLUMNS);
            if (draft.w == NONE) {
                return 2;
            }
            int place = 3;
            for (int side = 0; side <= 1; side++) {
                for (int i = 0; i < draft.totalCount(side); i++) {
                    int total = figureAt(place, 0, draft.mostTotal(side));
                    if (total == NONE) {
                        return place;
                    }
                    draft.putTotal(side, i, total);
                    place++;
                }
            }
            return readPins(place);
        }

        private int readPins(int start) {
            draft.pinned = 0;
            draft.pinnedYes = 0;
            for (int place = start; place < length; place += 3) {
                int letter = letterAt(place);
                int pins = draft.pinCount();
                if ((letter != 'o' && letter != 'x') || pins >= MOST_PINS || pins >= draft.cells()) {
                    return place;
                }
                int r = figureAt(place + 1, 0, draft.h - 1);
                if (r == NONE || Integer.bitCount(draft.columnsOf(draft.pinned, r)) == draft.w) {
                    return place + 1;
                }
                int c = figureAt(place + 2, 0, draft.w - 1);
                if (c == NONE || (draft.pinned & draft.bitAt(r, c)) != 0) {
                    return place + 2;
                }
                draft.putPin(draft.w * r + c, letter == 'o' ? PINNED_YES : PINNED_NO);
            }
            return NONE;
        }

        private int letterAt(int place) {
            return place >= 0 && place < length && place < MOST_LETTERS ? letters[place] : NONE;
        }

        private int figureAt(int place, int least, int most) {
            int figure = letterAt(place) - '0';
            return figure >= least && figure <= most ? figure : NONE;
        }
    }

    /** All ANSWERS of a SHEET, by their numbers. */
    private static final class Answers {
        /** The PLANES of five COLUMNS in one ROW: those with fewer yes first, then the less. */
        private static final int[] ROWS_BY_YES = {
            0,
            1, 2, 4, 8, 16,
            3, 5, 6, 9, 10, 12, 17, 18, 20, 24,
            7, 11, 13, 14, 19, 21, 22, 25, 26, 28,
            15, 23, 27, 29, 30,
            31};
        private static final int[] FIRST_WITH_YES = {0, 1, 6, 16, 26, 31, 32};

        /** Steps from here down to 1 lead to any number below 512, so to each ANSWER. */
        private static final int WIDEST_STEP = 256;

        /** The ANSWERS that there would be without PINS. */
        final int[] unpinned = new int[MOST_ANSWERS];
        int unpinnedSize;
        final int[] planes = new int[MOST_ANSWERS];
        int size;
        /** Told anew each time that the ANSWERS may be others. */
        int edition;
        private int always;
        private int ever;
        private long listedTotals = NONE;
        private int listedPinned;
        private int listedYes;

        void listFor(Sheet sheet) {
            long totals = sheet.totalsAsNumber();
            if (totals == listedTotals && sheet.pinned == listedPinned && sheet.pinnedYes == listedYes) {
                return;
            }
            if (totals != listedTotals) {
                unpinnedSize = 0;
                addFrom(this, sheet, 0, 0, columnsWith(sheet, 1), columnsWith(sheet, 2), columnsWith(sheet, 4));
            }
            narrowTo(sheet);
            listedTotals = totals;
            listedPinned = sheet.pinned;
            listedYes = sheet.pinnedYes;
            edition++;
        }

        /** The COLUMNS whose TOTAL has a binary figure. */
        private static int columnsWith(Sheet sheet, int figure) {
            int columns = 0;
            for (int c = 0; c < sheet.w; c++) {
                if ((sheet.totalOf(1, c) & figure) != 0) {
                    columns |= columnBit(c);
                }
            }
            return columns;
        }

        /**
         * Adds what ROW r and those behind it make of a PLANE. How many each COLUMN lacks is told
         * by its binary figures: the COLUMNS that have a one, a two, a four in it.
         */
        private static void addFrom(Answers list, Sheet sheet, int r, int made, int ones, int twos, int fours) {
            if (!sheet.hasRow(r)) {
                list.addUnpinned(made);
                return;
            }
            int total = sheet.totalOf(0, r);
            if (total < 0 || total > MOST_COLUMNS) {
                return;
            }
            int left = sheet.h - r;
            int must = ((left & 1) != 0 ? ones : ~ones)
                    & ((left & 2) != 0 ? twos : ~twos)
                    & ((left & 4) != 0 ? fours : ~fours);
            int may = ones | twos | fours;
            for (int i = FIRST_WITH_YES[total]; i < FIRST_WITH_YES[total + 1]; i++) {
                int row = ROWS_BY_YES[i];
                if ((row & must) == must && (row & ~may) == 0) {
                    int fromTwos = row & ~ones;
                    int fromFours = fromTwos & ~twos;
                    int more = made | sheet.placed(row, r);
                    addFrom(list, sheet, r + 1, more, ones ^ row, twos ^ fromTwos, fours ^ fromFours);
                }
            }
        }

        private void addUnpinned(int answer) {
            if (unpinnedSize < MOST_ANSWERS) {
                unpinned[unpinnedSize] = answer;
                unpinnedSize++;
            }
        }

        private void narrowTo(Sheet sheet) {
            size = 0;
            always = -1;
            ever = 0;
            for (int i = 0; i < unpinnedSize; i++) {
                int answer = unpinned[i];
                if ((answer & sheet.pinned) == sheet.pinnedYes) {
                    planes[size] = answer;
                    size++;
                    always &= answer;
                    ever |= answer;
                }
            }
        }

        /** Which ANSWER a PLANE is, NONE if it is none: by steps, each half as wide as the one before. */
        int numberOf(int plane) {
            int number = 0;
            for (int step = WIDEST_STEP; step > 0; step /= 2) {
                int next = number + step;
                if (next < size && planes[next] <= plane) {
                    number = next;
                }
            }
            return number < size && planes[number] == plane ? number : NONE;
        }

        int openCells() {
            return ever & ~always;
        }

        int sureAt(int cell) {
            if (size == 0) {
                return NONE;
            }
            return yesIn(openCells(), cell) == 1 ? OPEN : yesIn(always, cell);
        }

        int yesAt(int cell) {
            int bit = bitOf(cell);
            int yes = 0;
            for (int k = 0; k < size; k++) {
                yes += (planes[k] & bit) != 0 ? 1 : 0;
            }
            return yes;
        }
    }

    /** A SHEET with its ANSWERS, and what can be done to it; one is the real one, one for trials. */
    private static final class Board {
        final Sheet sheet = new Sheet();
        final Answers list = new Answers();

        /** Lists ANSWERS; THE PLANE stays if it is one of them, else it is the first one, or none. */
        void settle() {
            list.listFor(sheet);
            if (list.numberOf(sheet.plane) == NONE) {
                sheet.plane = list.size > 0 ? list.planes[0] : NO_PLANE;
            }
        }

        int planeAt(int cell) {
            return sheet.plane == NO_PLANE ? NONE : yesIn(sheet.plane, cell);
        }

        int switchRefusal(int r, int s, int c, int d) {
            if (!sheet.hasRow(r) || !sheet.hasRow(s) || !sheet.hasColumn(c) || !sheet.hasColumn(d)) {
                return UNKNOWN;
            }
            boolean can = sheet.plane != NO_PLANE && sheet.isSwitch(sheet.plane, r, s, c, d);
            return can ? FINE : STATE;
        }

        void makeSwitch(int r, int s, int c, int d) {
            sheet.plane = sheet.switched(sheet.plane, r, s, c, d);
        }

        int totalRefusal(int side, int i, int v) {
            if (side != 0 && side != 1) {
                return OUTSIDE;
            }
            if (!sheet.hasTotal(side, i)) {
                return UNKNOWN;
            }
            return v < 0 || v > sheet.mostTotal(side) ? OUTSIDE : FINE;
        }

        int pinRefusal(int cell, int v) {
            if (!sheet.hasCell(cell)) {
                return UNKNOWN;
            }
            if (v < 0 || v > PINNED_NO) {
                return OUTSIDE;
            }
            boolean another = v != 0 && sheet.pinOf(cell) == 0;
            return another && sheet.pinCount() >= MOST_PINS ? FULL : FINE;
        }

        /** Whether a doing of five figures can be, or is so; what it does is done then. */
        boolean takes(int doing) {
            int kind = doing / 10000;
            int a = doing / 1000 % 10;
            int b = doing / 100 % 10;
            int c = doing / 10 % 10;
            int d = doing % 10;
            switch (kind) {
                case 1:
                    return takesSwitch(a, b, c, d);
                case 2:
                    return c == 0 && takesPin(10 * a + b, d);
                case 3:
                    return c == 0 && takesTotal(a, b, d);
                case 4:
                    return c == 0 && sheet.hasCell(10 * a + b) && planeAt(10 * a + b) == d;
                case 5:
                    return c == 0 && sheet.hasCell(10 * a + b) && list.sureAt(10 * a + b) == d;
                case 6:
                    return a == 0 && list.size >= 100 * b + 10 * c + d;
                default:
                    return false;
            }
        }

        private boolean takesSwitch(int r, int s, int c, int d) {
            boolean can = switchRefusal(r, s, c, d) == FINE;
            if (can) {
                makeSwitch(r, s, c, d);
            }
            return can;
        }

        private boolean takesPin(int cell, int v) {
            boolean can = pinRefusal(cell, v) == FINE;
            if (can) {
                sheet.putPin(cell, v);
                settle();
            }
            return can;
        }

        private boolean takesTotal(int side, int i, int v) {
            boolean can = totalRefusal(side, i, v) == FINE;
            if (can) {
                sheet.putTotal(side, i, v);
                settle();
            }
            return can;
        }

        /** A KEY as two figures a CELL; 0, if it has none; NONE. */
        int findKey() {
            if (sheet.plane == NO_PLANE) {
                return NONE;
            }
            if (list.size == 1) {
                return 0;
            }
            int last = leastCell(tellingApart(0));
            if (last != NONE) {
                return last + 1;
            }
            int two = findKeyOfTwo();
            return two != NONE ? two : findKeyOfThree();
        }

        private int findKeyOfTwo() {
            for (int first = 0; first < sheet.cells(); first++) {
                int last = leastCell(tellingApart(bitOf(first)));
                if (last != NONE) {
                    return 100 * (first + 1) + last + 1;
                }
            }
            return NONE;
        }

        private int findKeyOfThree() {
            for (int first = 0; first < sheet.cells(); first++) {
                for (int second = first + 1; second < sheet.cells(); second++) {
                    int last = leastCell(tellingApart(bitOf(first) | bitOf(second)));
                    if (last != NONE) {
                        return 10000 * (first + 1) + 100 * (second + 1) + last + 1;
                    }
                }
            }
            return NONE;
        }

        /**
         * The CELLS each of which makes a KEY together with those told. As the least CELLS are
         * tried first, and no fewer are a KEY, these are behind those told when there are any.
         */
        private int tellingApart(int told) {
            int cells = -1;
            for (int k = 0; k < list.size && cells != 0; k++) {
                int otherwise = list.planes[k] ^ sheet.plane;
                if (otherwise != 0 && (otherwise & told) == 0) {
                    cells &= otherwise;
                }
            }
            return cells;
        }
    }

    /** THE TEST of TOTALS, and FILLED. */
    private static final class Filling {
        private final int[] order = new int[MOST_ROWS];
        private final int[] lack = new int[MOST_COLUMNS];

        int failsAt(Sheet sheet) {
            if (sheet.together(0) != sheet.together(1)) {
                return 0;
            }
            orderRows(sheet);
            int greatest = 0;
            for (int k = 1; k <= sheet.h; k++) {
                greatest += sheet.totalOf(0, order[k - 1]);
                if (greatest > roomOf(sheet, k)) {
                    return k;
                }
            }
            return NONE;
        }

        private static int roomOf(Sheet sheet, int k) {
            int room = 0;
            for (int c = 0; c < sheet.w; c++) {
                room += Math.min(k, sheet.totalOf(1, c));
            }
            return room;
        }

        /** The greatest TOTAL first, of like ones by number. */
        private void orderRows(Sheet sheet) {
            for (int r = 0; r < sheet.h; r++) {
                int place = r;
                while (place > 0 && sheet.totalOf(0, order[place - 1]) < sheet.totalOf(0, r)) {
                    order[place] = order[place - 1];
                    place--;
                }
                order[place] = r;
            }
        }

        int fill(Sheet sheet) {
            orderRows(sheet);
            for (int c = 0; c < sheet.w; c++) {
                lack[c] = sheet.totalOf(1, c);
            }
            int made = 0;
            for (int i = 0; i < sheet.h; i++) {
                int columns = chooseColumns(sheet, sheet.totalOf(0, order[i]));
                made |= sheet.placed(columns, order[i]);
            }
            return made;
        }

        private int chooseColumns(Sheet sheet, int total) {
            int chosen = 0;
            for (int n = 0; n < total; n++) {
                int most = NONE;
                for (int c = 0; c < sheet.w; c++) {
                    boolean free = (chosen & columnBit(c)) == 0;
                    if (free && (most == NONE || lack[c] > lack[most])) {
                        most = c;
                    }
                }
                if (most != NONE) {
                    chosen |= columnBit(most);
                    lack[most]--;
                }
            }
            return chosen;
        }
    }

    /** How many SWITCHES each ANSWER is away from THE PLANE. */
    private static final class Walk {
        private final int[] steps = new int[MOST_ANSWERS];
        private final int[] queue = new int[MOST_ANSWERS];
        int found;
        private int walkedEdition = NONE;
        private int walkedPlane = NO_PLANE;

        /** Walks only if the last walk was another one: it is the dearest of all. */
        void goFrom(Board board) {
            if (walkedEdition == board.list.edition && walkedPlane == board.sheet.plane) {
                return;
            }
            walkedEdition = board.list.edition;
            walkedPlane = board.sheet.plane;
            for (int k = 0; k < MOST_ANSWERS; k++) {
                steps[k] = NONE;
            }
            found = 0;
            reach(board, walkedPlane, 0);
            // When all ANSWERS are found, those still in the queue can lead to no other one.
            for (int i = 0; i < MOST_ANSWERS && i < found && found < board.list.size; i++) {
                reachAround(board, queue[i]);
            }
        }

        int stepsTo(int number) {
            return number >= 0 && number < MOST_ANSWERS ? steps[number] : NONE;
        }

        private void reach(Board board, int plane, int far) {
            int number = board.list.numberOf(plane);
            if (number != NONE && steps[number] == NONE && found < MOST_ANSWERS) {
                steps[number] = far;
                queue[found] = number;
                found++;
            }
        }

        private void reachAround(Board board, int number) {
            for (int r = 0; r < board.sheet.h; r++) {
                for (int s = r + 1; s < board.sheet.h; s++) {
                    reachByRows(board, number, r, s);
                }
            }
        }

        private void reachByRows(Board board, int number, int r, int s) {
            Sheet sheet = board.sheet;
            int plane = board.list.planes[number];
            int fromFirst = sheet.giving(plane, r, s);
            int fromSecond = sheet.giving(plane, s, r);
            for (int c = 0; c < sheet.w && fromSecond != 0; c++) {
                if ((fromFirst & columnBit(c)) == 0) {
                    continue;
                }
                for (int d = 0; d < sheet.w; d++) {
                    if ((fromSecond & columnBit(d)) != 0) {
                        reach(board, sheet.switched(plane, r, s, c, d), steps[number] + 1);
                    }
                }
            }
        }
    }

    /** How many ANSWERS there are by each set of PINS, a bit each in the order of their CELLS. */
    private static final class PinSets {
        private final int[] cells = new int[MOST_PINS];
        private final int[] breaking = new int[1 << MOST_PINS];
        private final int[] left = new int[1 << MOST_PINS];
        int pins;

        void weigh(Board board) {
            listPins(board.sheet);
            int sets = 1 << pins;
            for (int set = 0; set < sets; set++) {
                breaking[set] = 0;
                left[set] = 0;
            }
            for (int k = 0; k < board.list.unpinnedSize; k++) {
                breaking[brokenBy(board.sheet, board.list.unpinned[k])]++;
            }
            for (int set = 0; set < sets; set++) {
                for (int broken = 0; broken < sets; broken++) {
                    left[set] += (set & broken) == 0 ? breaking[broken] : 0;
                }
            }
        }

        private void listPins(Sheet sheet) {
            pins = 0;
            for (int cell = 0; cell < sheet.cells() && pins < MOST_PINS; cell++) {
                if (sheet.pinOf(cell) != 0) {
                    cells[pins] = cell;
                    pins++;
                }
            }
        }

        private int brokenBy(Sheet sheet, int plane) {
            int wrong = (plane ^ sheet.pinnedYes) & sheet.pinned;
            int broken = 0;
            for (int i = 0; i < pins; i++) {
                broken |= yesIn(wrong, cells[i]) << i;
            }
            return broken;
        }

        int orders(int things) {
            int orders = 1;
            for (int n = 2; n <= things; n++) {
                orders *= n;
            }
            return orders;
        }

        /** How many ANSWERS there are fewer by a PINNED CELL, all orders of PINS together. */
        int fewerInAllOrders(int cell) {
            int own = 0;
            for (int i = 0; i < pins; i++) {
                own |= cells[i] == cell ? 1 << i : 0;
            }
            int together = 0;
            for (int set = 0; set < 1 << pins; set++) {
                if ((set & own) == 0) {
                    int before = Integer.bitCount(set);
                    int ways = orders(before) * orders(pins - 1 - before);
                    together += ways * (left[set] - left[set | own]);
                }
            }
            return together;
        }

        /** That one ANSWER is left when each PIN comes off by x tenths, of 10 for each PIN. */
        int chancesOfOne(int x) {
            int chances = 0;
            for (int set = 0; set < 1 << pins; set++) {
                if (left[set] == 1) {
                    int stay = Integer.bitCount(set);
                    chances += power(TENTHS - x, stay) * power(x, pins - stay);
                }
            }
            return chances;
        }
    }

    /** THE ROW of ACTS: what was before each of them. */
    private static final class Acts {
        private final Sheet[] before = new Sheet[MOST_ACTS];
        private int next;
        int length;

        Acts() {
            for (int i = 0; i < MOST_ACTS; i++) {
                before[i] = new Sheet();
            }
        }

        /** Where the row is full, the place of its first ACT is taken, which is forgotten so. */
        void add(Sheet sheet) {
            before[next].become(sheet);
            next = next + 1 < MOST_ACTS ? next + 1 : 0;
            length = Math.min(length + 1, MOST_ACTS);
        }

        void takeBack(Sheet sheet) {
            if (length > 0) {
                next = next > 0 ? next - 1 : MOST_ACTS - 1;
                length--;
                sheet.become(before[next]);
            }
        }
    }
}
