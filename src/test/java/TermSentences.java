import java.math.BigInteger;
import java.util.ArrayList;
import java.util.Arrays;
import java.util.List;

/** The sentences of "Terms", one after the other, each with a test of its own: its edges first of all. */
public final class TermSentences {
    private static final int UNKNOWN = Check.UNKNOWN, OUTSIDE = Check.OUTSIDE, STATE = Check.STATE;
    private static final int FULL = Check.FULL, NONE = Check.NONE;
    private static final String SIX_PINS = "P33 111 111 x00x01o02x10o11x12";

    public static void main(String[] args) {
        constants();
        manyCalls();
        refusals();
        sheets();
        faults();
        answersAndActs();
        testAndFilled();
        cellsOfAnswers();
        switches();
        judged();
        seenAndWhich();
        sharesAndChances();
        slots();
        Check.dueAllQuoted("Face", 1);
        Check.dueAllQuoted("Use", 1);
        Check.dueAllQuoted("Terms", 4);
        Check.end();
    }

    private static void due(String call, long got, long want) {
        Check.due(call, got, want);
    }

    private static TwoViews told(String text) {
        return Check.told(text);
    }

    // ---- the face, and how it is used

    private static void constants() {
        Check.words("Face", "UNKNOWN = -1, OUTSIDE = -2, STATE = -3, FULL = -4, NONE = -9");
        due("UNKNOWN", TwoViews.UNKNOWN, -1);
        due("OUTSIDE", TwoViews.OUTSIDE, -2);
        due("STATE", TwoViews.STATE, -3);
        due("FULL", TwoViews.FULL, -4);
        due("NONE", TwoViews.NONE, -9);
        due("what is refused", new TwoViews().pin(1), TwoViews.UNKNOWN);
    }

    private static void manyCalls() {
        Check.words("Use", "An object is used for at most 512 calls after it has been made; what later calls answer is free.");
        // A wipe, nine letters, a sheet, then 499 acts are 510 calls.
        TwoViews x = told("P33 111 111");
        for (int calls = 12; calls <= 510; calls++) {
            x.go(calls % 6);
        }
        due("the 511th call", x.plane(), 0);
        due("the 512th call", x.undo(), 13);
        TwoViews y = new TwoViews();
        for (int calls = 1; calls <= 511; calls++) {
            y.write('P');
        }
        due("the 512th call", y.write('P'), FULL);
        TwoViews z = told("P45 2332 22222");
        for (int calls = 15; calls <= 509; calls += 3) {
            z.go(calls % 310);
            z.keep(calls % 2);
            z.again(calls % 2);
        }
        due("one of the last calls", z.reached(), 310);
        due("the last call", z.answers(), 310);
    }

    // ---- REFUSALS

    private static void refusals() {
        Check.words("Terms", "REFUSALS, of several the first that a call names: UNKNOWN (there is no such ROW, COLUMN, CELL, ANSWER, SLOT), OUTSIDE (another number is not as told), STATE (as told), FULL.");
        refusalsOfWhatIsFull();
        refusalsWithoutAnswers();
        TwoViews x = told("P33 111 111");
        due("total, both wrong", x.total(2, 3), OUTSIDE);
        due("setTotal, all wrong", x.setTotal(2, 3, 4), OUTSIDE);
        due("setTotal, the last two wrong", x.setTotal(1, 3, 4), UNKNOWN);
        due("cell, both wrong", x.cell(9, 3), UNKNOWN);
        due("setPin, both wrong", x.setPin(9, 3), UNKNOWN);
        due("swap, no row and no switch", x.swap(0, 3, 0, 0), UNKNOWN);
        due("swap, no column and no switch", x.swap(0, 0, 0, 3), UNKNOWN);
        due("apart, no slot, none kept", x.apart(2), UNKNOWN);
        due("again, no slot, none kept", x.again(2), UNKNOWN);
        due("share, no cell, no pin", x.share(9, true), UNKNOWN);
        due("judge, both wrong", x.judge(4, -1), OUTSIDE);

        Check.words("Terms", "What is refused changes nothing.");
        refusedOnBusy();
        refusedOnFull();
        refusedOnBare();

        Check.words("Terms", "NONE is -9.");
        due("NONE", TwoViews.NONE, -9);
        due("a fault that is none", told("P11 0 0").fault(), -9);

        Check.words("Terms", "FRACTIONS are told above (upper = true), below, in least terms;");
        Check.dueFraction("2 of 6", told("P33 111 111").odds(4, true), told("P33 111 111").odds(4, false), 1, 3);
        Check.dueFraction("0 of 4", told("P33 111 111 x00").odds(0, true), told("P33 111 111 x00").odds(0, false), 0, 1);
        Check.dueFraction("2 of 2", told("P33 111 111 o00").odds(0, true), told("P33 111 111 o00").odds(0, false), 1, 1);
        Check.dueFraction("15 of 6", told("P33 111 111 o00x01x11").share(0, true), told("P33 111 111 o00x01x11").share(0, false), 5, 2);
        Check.dueFraction("84 of 100", told("P22 11 11 o00x01").loose(4, true), told("P22 11 11 o00x01").loose(4, false), 21, 25);

        Check.words("Terms", "refusals of them are told likewise.");
        for (boolean upper : new boolean[] {true, false}) {
            due("odds", x.odds(9, upper), UNKNOWN);
            due("odds", told("P33 111 110").odds(0, upper), STATE);
            due("share", x.share(-1, upper), UNKNOWN);
            due("share", x.share(0, upper), STATE);
            due("loose", x.loose(11, upper), OUTSIDE);
        }
    }

    private static void refusalsOfWhatIsFull() {
        TwoViews x = new TwoViews();
        full(x);
        due("write, no letter, none more", x.write(256), OUTSIDE);
        due("setPin, no cell, the seventh", x.setPin(9, 1), UNKNOWN);
        due("setPin, no way, the seventh", x.setPin(8, 3), OUTSIDE);
        due("see, no cell, none more", x.see(20, 0), OUTSIDE);
        due("see, not as told, none more", x.see(0, 2), OUTSIDE);
    }

    private static void refusalsWithoutAnswers() {
        TwoViews x = told("P33 300 300");
        due("filled, no cell, the test fails", x.filled(9), UNKNOWN);
        due("odds, no cell, no answers", x.odds(9, true), UNKNOWN);
        due("swap, no row, no plane", x.swap(3, 0, 0, 0), UNKNOWN);
    }

    /** Some of everything: answers, a pin, acts, a slot, cells that were seen, a seed, a text with a fault. */
    private static long busy(TwoViews x) {
        Check.tell(x, "P33 111 111 x00");
        x.sheet();
        x.see(1, 1);
        x.see(5, 1);
        x.seed(77);
        x.go(2);
        x.keep(0);
        x.setPin(8, 2);
        x.setTotal(1, 1, 1);
        Check.tell(x, "P33 11");
        return 0;
    }

    /** As many letters, pins, cells that were seen as there may be. */
    private static long full(TwoViews x) {
        Check.tell(x, SIX_PINS);
        x.sheet();
        for (int i = x.count(0); i < 40; i++) {
            x.write('P');
        }
        for (int i = 0; i < 6; i++) {
            x.see(i, 0);
        }
        return 0;
    }

    private static long bare(TwoViews x) {
        Check.tell(x, "P33 300 300");
        x.sheet();
        return 0;
    }

    private static void refusedOnBusy() {
        busyRefuses("write(-1)", x -> x.write(-1), OUTSIDE);
        busyRefuses("write(256)", x -> x.write(256), OUTSIDE);
        busyRefuses("sheet()", x -> x.sheet(), STATE);
        busyRefuses("total(2, 0)", x -> x.total(2, 0), OUTSIDE);
        busyRefuses("total(0, 3)", x -> x.total(0, 3), UNKNOWN);
        busyRefuses("pin(9)", x -> x.pin(9), UNKNOWN);
        busyRefuses("filled(9)", x -> x.filled(9), UNKNOWN);
        busyRefuses("mended(2)", x -> x.mended(2), OUTSIDE);
        busyRefuses("cell(9, 0)", x -> x.cell(9, 0), UNKNOWN);
        busyRefuses("cell(0, 3)", x -> x.cell(0, 3), OUTSIDE);
        busyRefuses("odds(9, true)", x -> x.odds(9, true), UNKNOWN);
        busyRefuses("ask(2)", x -> x.ask(2), OUTSIDE);
        busyRefuses("go(-1)", x -> x.go(-1), UNKNOWN);
        busyRefuses("go(3)", x -> x.go(3), UNKNOWN);
        busyRefuses("swap(3, 0, 0, 0)", x -> x.swap(3, 0, 0, 0), UNKNOWN);
        busyRefuses("swap(0, 1, 2, 1)", x -> x.swap(0, 1, 2, 1), STATE);
        busyRefuses("setTotal(2, 0, 0)", x -> x.setTotal(2, 0, 0), OUTSIDE);
        busyRefuses("setTotal(0, 3, 0)", x -> x.setTotal(0, 3, 0), UNKNOWN);
        busyRefuses("setTotal(0, 0, 4)", x -> x.setTotal(0, 0, 4), OUTSIDE);
        busyRefuses("setPin(9, 0)", x -> x.setPin(9, 0), UNKNOWN);
        busyRefuses("setPin(0, 3)", x -> x.setPin(0, 3), OUTSIDE);
        busyRefuses("switches(2)", x -> x.switches(2), OUTSIDE);
        busyRefuses("apart(1)", x -> x.apart(1), STATE);
        busyRefuses("apart(2)", x -> x.apart(2), UNKNOWN);
        busyRefuses("key(2)", x -> x.key(2), OUTSIDE);
        busyRefuses("judge(0, 0)", x -> x.judge(0, 0), OUTSIDE);
        busyRefuses("judge(1, 100000)", x -> x.judge(1, 100000), OUTSIDE);
        busyRefuses("see(20, 0)", x -> x.see(20, 0), OUTSIDE);
        busyRefuses("see(0, 2)", x -> x.see(0, 2), OUTSIDE);
        busyRefuses("which(2)", x -> x.which(2), OUTSIDE);
        busyRefuses("share(9, true)", x -> x.share(9, true), UNKNOWN);
        busyRefuses("share(1, true)", x -> x.share(1, true), STATE);
        busyRefuses("loose(11, true)", x -> x.loose(11, true), OUTSIDE);
        busyRefuses("drawn(0)", x -> x.drawn(0), OUTSIDE);
        busyRefuses("drawn(21)", x -> x.drawn(21), OUTSIDE);
        busyRefuses("keep(2)", x -> x.keep(2), UNKNOWN);
        busyRefuses("again(1)", x -> x.again(1), STATE);
        busyRefuses("again(2)", x -> x.again(2), UNKNOWN);
        busyRefuses("count(10)", x -> x.count(10), OUTSIDE);
    }

    private static void busyRefuses(String call, Check.Doing more, int want) {
        Check.dueRefused(call, TermSentences::busy, more, want);
    }

    private static void refusedOnFull() {
        Check.dueRefused("write", TermSentences::full, x -> x.write('P'), FULL);
        Check.dueRefused("setPin", TermSentences::full, x -> x.setPin(8, 1), FULL);
        Check.dueRefused("see", TermSentences::full, x -> x.see(8, 1), FULL);
        Check.dueRefused("undo", TermSentences::full, x -> x.undo(), STATE);
    }

    private static void refusedOnBare() {
        Check.dueRefused("filled", TermSentences::bare, x -> x.filled(0), STATE);
        Check.dueRefused("odds", TermSentences::bare, x -> x.odds(0, false), STATE);
        Check.dueRefused("go", TermSentences::bare, x -> x.go(0), UNKNOWN);
        Check.dueRefused("swap", TermSentences::bare, x -> x.swap(0, 1, 0, 1), STATE);
        Check.dueRefused("undo", TermSentences::bare, x -> x.undo(), STATE);
        Check.dueRefused("again", TermSentences::bare, x -> x.again(0), STATE);
    }

    // ---- A SHEET

    private static void sheets() {
        Check.words("Terms 1", "A SHEET has h ROWS (1 to 4) and w COLUMNS (1 to 5), from 0; CELL w r + c lies in ROW r and COLUMN c.");
        for (int h = 0; h <= 9; h++) {
            for (int w = 0; w <= 9; w++) {
                dueSize(h, w);
            }
        }

        Check.words("Terms 1", "It has a TOTAL of each ROW (0 to w) and of each COLUMN (0 to h), and PINS (6 at most): CELLS that are sure to be yes, or no.");
        for (int h = 1; h <= 4; h++) {
            for (int w = 1; w <= 5; w++) {
                dueTotals(h, w);
            }
        }
        TwoViews six = told(SIX_PINS);
        due("six pins told as a text", six.count(3), 6);
        due("a seventh", six.setPin(8, 1), FULL);
        due("pins", six.count(3), 6);
        due("sure to be no", told("P22 11 11 x00").cell(0, 1), 0);
        due("sure to be yes", told("P22 11 11 o00").cell(0, 1), 1);

        Check.words("Terms 1", "At first it has one ROW and one COLUMN, both TOTALS 0, no PINS.");
        TwoViews x = new TwoViews();
        due("rows", x.count(1), 1);
        due("columns", x.count(2), 1);
        due("total of the row", x.total(0, 0), 0);
        due("total of the column", x.total(1, 0), 0);
        due("pins", x.count(3), 0);
        due("pin", x.pin(0), 0);

        Check.words("Terms 1", "THE TEXT is letters (40 at most).");
        for (int length = 1; length <= 40; length++) {
            due("write", x.write(length), length);
        }
        due("the 41st", x.write(41), FULL);
        due("letters", x.count(0), 40);
        due("wiped", x.wipe(), 40);
        due("the first again", x.write(41), 1);
    }

    private static void dueSize(int h, int w) {
        String text = "P" + h + w + "0".repeat(h + w);
        if (h < 1 || h > 4 || w < 1 || w > 5) {
            Check.dueFault(text, h < 1 || h > 4 ? 1 : 2);
            return;
        }
        TwoViews x = told(text);
        due("rows of " + text, x.count(1), h);
        due("columns of " + text, x.count(2), w);
        due("last row of " + text, x.total(0, h - 1), 0);
        due("last column of " + text, x.total(1, w - 1), 0);
        due("last cell of " + text, x.pin(h * w - 1), 0);
        Check.dueBeside("row of " + text, i -> x.total(0, i), UNKNOWN, 0, h - 1);
        Check.dueBeside("column of " + text, i -> x.total(1, i), UNKNOWN, 0, w - 1);
        Check.dueBeside("cell of " + text, x::pin, UNKNOWN, 0, h * w - 1);
        for (int r = 0; r < h; r++) {
            for (int c = 0; c < w; c++) {
                String one = "P" + h + w + oneIn(h, r) + oneIn(w, c);
                TwoViews y = told(one);
                due("the one cell of " + one, y.cell(w * r + c, 0), 1);
                due("cells of " + one, y.count(4), 1);
                due("the pin", told(one + "o" + r + c).pin(w * r + c), 1);
            }
        }
    }

    private static String oneIn(int totals, int place) {
        return "0".repeat(place) + "1" + "0".repeat(totals - 1 - place);
    }

    private static void dueTotals(int h, int w) {
        String size = "P" + h + w;
        String rows = String.valueOf(w).repeat(h);
        String columns = String.valueOf(h).repeat(w);
        due("all yes in " + size, told(size + rows + columns).count(4), h * w);
        due("all no in " + size, told(size + "0".repeat(h + w)).count(4), 0);
        Check.dueFault(size + rows.substring(1) + (w + 1), 2 + h);
        Check.dueFault(size + rows + columns.substring(1) + (h + 1), 2 + h + w);
        TwoViews x = told(size + "0".repeat(h + w));
        Check.dueBeside("a row's total in " + size, v -> x.setTotal(0, h - 1, v), OUTSIDE, 0, w);
        Check.dueBeside("a column's total in " + size, v -> x.setTotal(1, w - 1, v), OUTSIDE, 0, h);
        x.setTotal(0, h - 1, w);
        due("a row's greatest total in " + size, x.total(0, h - 1), w);
        x.setTotal(0, h - 1, 0);
        due("a row's least total in " + size, x.total(0, h - 1), 0);
        x.setTotal(1, w - 1, h);
        due("a column's greatest total in " + size, x.total(1, w - 1), h);
        x.setTotal(1, w - 1, 0);
        due("a column's least total in " + size, x.total(1, w - 1), 0);
    }

    // ---- FAULT

    private static void faults() {
        Check.words("Terms 1", "A SHEET is a TEXT: P, figures h and w, h TOTALS of ROWS, w TOTALS of COLUMNS, a figure each, then PINS, none or more, three letters each: o (yes) or x (no), figures r and c of a CELL that is not PINNED yet.");
        String text = "P2321012o01x12";
        String[] fine = {"P", "1234", "12345", "0123", "0123", "012", "012", "012", "ox", "01", "012", "ox", "01", "012"};
        for (int place = 0; place < text.length(); place++) {
            dueLetters(text.substring(0, place), fine[place]);
        }
        dueLetters(text, "ox");
        dueLetters("P2321012o01x0", "02");
        dueLetters("P2321012o01x00x0", "2");
        dueLetters("P2321012o01x00x02x", "1");
        due("a text with no pins", told("P23 21 012").count(3), 0);
        due("the pin of an o", told(text).pin(1), 1);
        due("the pin of an x", told(text).pin(5), 2);

        Check.words("Terms 1", "FAULT: the place (from 0 on) of the first letter by which THE TEXT can be no SHEET, whatever came behind it");
        Check.dueFault("pP11 0 0", 0);
        Check.dueFault("Q60 9 9", 0);
        Check.dueFault("P60 9 9", 1);
        Check.dueFault("P16 9 9", 2);
        Check.dueFault("P11 2 2", 3);
        Check.dueFault("P11 1 2 z99", 4);
        Check.dueFault("P11 1 1 z99", 5);
        Check.dueFault("P11 1 1 o99", 6);
        Check.dueFault("P11 1 1 o09", 7);
        Check.dueFault("P22 11 11 o00 x00 z", 12);

        Check.words("Terms 1", "(its length set aside;");
        Check.dueFault("P45 2332 22222 x00x01o02x10x11o12" + "z".repeat(10), 30);
        Check.dueFault("z".repeat(40), 0);
        Check.dueFault("P11 0 0" + "o".repeat(35), 6);

        Check.words("Terms 1", "so a seventh PIN,");
        Check.dueFault(SIX_PINS, NONE);
        Check.dueFault(SIX_PINS + "x", 27);
        Check.dueFault(SIX_PINS + "o20", 27);
        Check.dueFault(SIX_PINS + "z20", 27);

        Check.words("Terms 1", "one when all CELLS are PINNED,");
        Check.dueFault("P11 1 1 o00", NONE);
        Check.dueFault("P11 1 1 o00 x", 8);
        Check.dueFault("P22 11 11 o00x01x10", NONE);
        Check.dueFault("P22 11 11 o00x01x10o", 17);
        Check.dueFault("P22 11 11 o00x01x10o11", NONE);
        Check.dueFault("P22 11 11 o00x01x10o11o", 19);
        Check.dueFault("P15 1 10000 o00x01x02x03x04x", 24);
        Check.dueFault("P32 111 21 o00x01x10o11o20x21x", 26);

        Check.words("Terms 1", "the figure r of a ROW all of whose CELLS are);");
        Check.dueFault("P22 11 11 o00x01x", 14);
        Check.dueFault("P22 11 11 o00x01x0", 14);
        Check.dueFault("P22 11 11 o00x01x01", 14);
        Check.dueFault("P22 11 11 o00x10x0", 15);
        Check.dueFault("P22 11 11 o00x10x00", 15);
        Check.dueFault("P22 11 11 x10o11x1", 14);
        Check.dueFault("P45 2332 22222 x30x31x32x33x3", 26);
        Check.dueFault("P45 2332 22222 x30x31x32x33x34x3", 28);
        Check.dueFault("P41 1111 4 o30o3", 12);
        Check.dueFault("P41 1111 4 o30o2", 13);

        Check.words("Terms 1", "its length, if it is only not at its end;");
        for (int length = 0; length < text.length(); length++) {
            boolean whole = length == 8 || length == 11;
            Check.dueFault(text.substring(0, length), whole ? NONE : length);
        }

        Check.words("Terms 1", "NONE: none.");
        Check.dueFault(text, NONE);
        Check.dueFault("P11 0 0", NONE);
        Check.dueFault("P11 1 0", NONE);
        Check.dueFault("P45 0000 00000", NONE);
        Check.dueFault("P45 5555 44444", NONE);
        Check.dueFault("P45 5555 44444 x34o00x11o22x33o01", NONE);
    }

    /** Behind a text that is no fault yet, these letters are none, all others are. */
    private static void dueLetters(String before, String fine) {
        for (int letter = 0; letter <= 255; letter++) {
            TwoViews x = new TwoViews();
            Check.tell(x, before);
            x.write(letter);
            boolean isFine = fine.indexOf(letter) >= 0;
            due("whether letter " + letter + " behind " + before + " is the fault", x.fault() == before.length() ? 1 : 0, isFine ? 0 : 1);
        }
    }

    // ---- ANSWERS, ACTS

    private static void answersAndActs() {
        Check.words("Terms 1", "A PLANE: each CELL is yes or no.");
        Check.duePlane(told("P22 21 12"), "11 01");

        Check.words("Terms 1", "An ANSWER is a PLANE in which each ROW and each COLUMN has as many that are yes as its TOTAL, and each PIN holds.");
        for (int h = 1; h <= 4; h++) {
            for (int w = 1; w <= 5 && h * w <= 10; w++) {
                dueAnswersOfAllTotals(h, w);
            }
        }
        due("all pins hold", told("P33 111 111 o02o11o20").answers(), 1);
        due("one of the pins does not hold", told("P33 111 111 o02o11x20").answers(), 0);

        Check.words("Terms 1", "ANSWERS are numbered from 0, as rows of no and yes, CELL 0 first, no less than yes, the least first.");
        String[] texts = {"P11 0 0", "P11 1 1", "P15 1 00100", "P41 0101 2", "P22 11 11", "P33 111 111", "P33 111 111 x00",
            "P33 212 221", "P25 32 11111", "P43 1212 222 x31", "P44 1111 1111", "P45 2332 22222", "P45 1514 33122", "P45 3222 23211 o11x34",
            "P25 41 11111", "P35 434 23222", "P45 4444 33334", "P45 3333 42222", "P45 1441 22222", "P45 3311 41111"};
        for (String text : texts) {
            dueNumbered(text);
        }

        Check.words("Terms 1", "THE PLANE is ANSWER 0 when a SHEET is told; none, if there is none.");
        TwoViews x = told("P33 111 111");
        due("plane", x.plane(), 0);
        x.go(5);
        x.sheet();
        due("told again", x.plane(), 0);
        due("none", told("P33 111 112").plane(), NONE);
        due("none by a pin", told("P11 1 1 x00").plane(), NONE);
        Check.tell(x, "P33 300 300");
        x.sheet();
        due("none any more", x.plane(), NONE);
        due("none any more", x.cell(0, 0), NONE);

        acts();
        planesThatStay();
    }

    private static void dueAnswersOfAllTotals(int h, int w) {
        int most = (int) (Math.pow(w + 1, h) * Math.pow(h + 1, w));
        for (int number = 0; number < most; number++) {
            String text = "P" + h + w + totalsOf(number, h, w);
            List<String> want = answersOf(text);
            TwoViews x = told(text);
            due("answers of " + text, x.answers(), want.size());
            Check.due("the first of " + text, Check.planeOf(x), want.isEmpty() ? "-9".repeat(h * w) : want.get(0));
        }
    }

    private static String totalsOf(int number, int h, int w) {
        StringBuilder totals = new StringBuilder();
        int rest = number;
        for (int i = 0; i < h + w; i++) {
            int kinds = (i < h ? w : h) + 1;
            totals.append(rest % kinds);
            rest /= kinds;
        }
        return totals.toString();
    }

    /** The ANSWERS of a text by trying all planes of its size, in the order of their numbers. */
    private static List<String> answersOf(String spaced) {
        String text = spaced.replace(" ", "");
        int h = text.charAt(1) - '0';
        int w = text.charAt(2) - '0';
        List<String> found = new ArrayList<>();
        int[] wanted = new int[h + w];
        for (int i = 0; i < h + w; i++) {
            wanted[i] = text.charAt(3 + i) - '0';
        }
        for (int plane = 0; plane < 1 << (h * w); plane++) {
            if (hasTotals(plane, h, w, wanted)) {
                String digits = Integer.toBinaryString(1 << (h * w) | plane).substring(1);
                if (holdsPins(digits, text.substring(3 + h + w), w)) {
                    found.add(digits);
                }
            }
        }
        return found;
    }

    private static boolean hasTotals(int plane, int h, int w, int[] wanted) {
        int[] totals = new int[h + w];
        for (int cell = 0; cell < h * w; cell++) {
            int yes = plane >> (h * w - 1 - cell) & 1;
            totals[cell / w] += yes;
            totals[h + cell % w] += yes;
        }
        return Arrays.equals(totals, wanted);
    }

    private static boolean holdsPins(String digits, String pins, int w) {
        for (int i = 0; i < pins.length(); i += 3) {
            int cell = w * (pins.charAt(i + 1) - '0') + pins.charAt(i + 2) - '0';
            if ((digits.charAt(cell) == '1') != (pins.charAt(i) == 'o')) {
                return false;
            }
        }
        return true;
    }

    private static void dueNumbered(String text) {
        List<String> want = answersOf(text);
        due("answers of " + text, told(text).answers(), want.size());
        for (int k = 0; k < want.size(); k++) {
            TwoViews x = told(text);
            x.go(k);
            Check.due("answer " + k + " of " + text, Check.planeOf(x), want.get(k));
            due("its number", x.plane(), k);
        }
        due("no answer behind the last", told(text).go(want.size()), UNKNOWN);
    }

    private static void acts() {
        Check.words("Terms 1", "ACTS (THE PLANE becomes an ANSWER by its number; SWITCHED; a TOTAL, a PIN told; also when nothing is otherwise by it)");
        dueAnAct("go", x -> x.go(3));
        dueAnAct("go where it is", x -> x.go(0));
        dueAnAct("swap", x -> x.swap(0, 1, 2, 1));
        dueAnAct("setTotal", x -> x.setTotal(0, 0, 2));
        dueAnAct("setTotal as it is", x -> x.setTotal(1, 2, 1));
        dueAnAct("setPin", x -> x.setPin(4, 1));
        dueAnAct("setPin as it is", x -> x.setPin(0, 2));
        dueAnAct("setPin no more", x -> x.setPin(0, 0));
        dueAnAct("setPin no more where there is none", x -> x.setPin(1, 0));

        Check.words("Terms 1", "are a row (14 at most; of more the first one is forgotten);");
        for (int acts = 1; acts <= 31; acts++) {
            dueUndone(acts);
        }
        TwoViews x = told("P33 111 111");
        goTimes(x, 14);
        undoTimes(x, 5);
        due("acts", x.count(6), 9);
        goTimes(x, 5);
        due("acts", x.count(6), 14);
        goTimes(x, 1);
        due("acts", x.count(6), 14);
        undoTimes(x, 14);
        due("all but the first are undone", x.plane(), 1);
        due("none is left", x.undo(), STATE);

        Check.words("Terms 1", "the last one can be undone.");
        TwoViews y = told("P33 111 111 x00");
        y.go(3);
        y.swap(0, 2, 1, 2);
        y.setPin(1, 2);
        y.setTotal(0, 0, 0);
        y.setPin(0, 1);
        due("undo", y.undo(), 4);
        due("the pin as it was", y.pin(0), 2);
        due("the total is still told", y.total(0, 0), 0);
        due("undo", y.undo(), 3);
        due("the total as it was", y.total(0, 0), 1);
        due("the pin is still told", y.pin(1), 2);
        due("undo", y.undo(), 2);
        due("the pin as it was", y.pin(1), 0);
        Check.duePlane(y, "001 100 010");
        due("undo", y.undo(), 1);
        Check.duePlane(y, "010 100 001");
        due("undo", y.undo(), 0);
        Check.duePlane(y, "001 010 100");
        due("none is left", y.undo(), STATE);
        due("an act behind undone ones", y.go(1), 4);
        due("acts", y.count(6), 1);
    }

    private static void dueAnAct(String call, Check.Doing act) {
        TwoViews x = told("P33 111 111 x00");
        act.to(x);
        due("acts by " + call, x.count(6), 1);
        act.to(x);
        due("undo of " + call, x.undo() >= 0 ? 1 : 0, 1);
        while (x.count(6) > 0) {
            x.undo();
        }
        due("the plane as it was", x.plane(), 0);
        due("the answers as they were", x.answers(), 4);
        due("the pin as it was", x.pin(0), 2);
        due("pins", x.count(3), 1);
    }

    /** Goes on to the next ANSWER by its number, as often as told. */
    private static void goTimes(TwoViews x, int times) {
        for (int i = 0; i < times; i++) {
            x.go((x.plane() + 1) % x.answers());
        }
    }

    private static void undoTimes(TwoViews x, int times) {
        for (int i = 0; i < times; i++) {
            x.undo();
        }
    }

    private static void dueUndone(int acts) {
        TwoViews x = told("P33 111 111");
        goTimes(x, acts);
        int kept = Math.min(acts, 14);
        due("acts of " + acts, x.count(6), kept);
        for (int left = kept - 1; left >= 0; left--) {
            due("undo of " + acts, x.undo(), left);
            due("plane", x.plane(), (acts - kept + left) % 6);
        }
        due("no more of " + acts, x.undo(), STATE);
    }

    private static void planesThatStay() {
        Check.words("Terms 1", "When a TOTAL or a PIN was told, THE PLANE stays, if it still is an ANSWER, else it is ANSWER 0, or none.");
        TwoViews x = told("P33 111 111");
        x.go(4);
        x.setTotal(0, 0, 1);
        due("the total as it is", x.plane(), 4);
        x.setPin(0, 1);
        Check.duePlane(x, "100 001 010");
        due("a pin that holds", x.plane(), 0);
        x.setPin(1, 2);
        Check.duePlane(x, "100 001 010");
        x.setPin(0, 0);
        Check.duePlane(x, "100 001 010");
        due("a pin that is no more", x.plane(), 2);
        x.setPin(5, 2);
        due("a pin that does not hold", x.plane(), 0);
        Check.duePlane(x, "001 010 100");
        x.setPin(1, 1);
        Check.duePlane(x, "010 100 001");
        x.setTotal(1, 1, 0);
        due("no answer left", x.plane(), NONE);
        x.setPin(5, 0);
        due("still none", x.plane(), NONE);
        x.setTotal(1, 1, 1);
        due("answers again", x.plane(), 0);
        Check.duePlane(x, "010 001 100");
        x.go(1);
        x.setTotal(0, 0, 2);
        x.setTotal(1, 0, 2);
        due("another total", x.plane(), 0);
        Check.duePlane(x, "011 100 100");
    }

    // ---- THE TEST

    private static void testAndFilled() {
        Check.words("Terms 2", "In what follows nothing is changed.");
        nothingChanges();

        Check.words("Terms 2", "THE TEST leaves PINS aside: it FAILS at 0, if TOTALS of ROWS together are not as many as those of COLUMNS;");
        due("one row more", told("P33 112 111").test(), 0);
        due("one column more", told("P33 111 112").test(), 0);
        due("not as many, and one row too great", told("P33 300 310").test(), 0);
        due("none and all", told("P45 0000 44444").test(), 0);
        due("all and none", told("P45 5555 00000").test(), 0);
        due("a pin that does not hold", told("P11 1 1 x00").test(), NONE);
        due("a pin that would mend it", told("P11 1 0 x00").test(), 0);
        due("one and none", told("P11 1 0").test(), 0);

        Check.words("Terms 2", "else at the least k (1 to h) for which the k greatest TOTALS of ROWS together are more than, of all COLUMNS together, the less of k and the COLUMN's TOTAL;");
        due("one row", told("P33 300 300").test(), 1);
        due("one row, the last one", told("P33 003 300").test(), 1);
        due("one row and two rows: the least", told("P33 330 330").test(), 1);
        due("as many as may be", told("P33 300 111").test(), NONE);
        due("two rows of three", told("P34 033 3210").test(), 2);
        due("three rows of four", told("P44 2220 4200").test(), 3);
        due("three rows of four, the first ones", told("P44 0222 4200").test(), 3);
        due("two rows of four", told("P45 4411 42220").test(), NONE);
        due("two rows of four", told("P45 4411 44110").test(), 2);
        for (int h = 1; h <= 4; h++) {
            for (int w = 1; w <= 5 && h * w <= 12; w++) {
                dueTestOfAllTotals(h, w);
            }
        }

        Check.words("Terms 2", "NONE: it passes.");
        due("all no", told("P45 0000 00000").test(), NONE);
        due("all yes", told("P45 5555 44444").test(), NONE);
        due("a new object", new TwoViews().test(), NONE);
        filled();
        mended();
    }

    private static void nothingChanges() {
        String[] names = {"fault", "total", "pin", "test", "filled", "mended", "answers", "cell", "odds", "ask", "plane",
            "switches", "reached", "apart", "key", "judge", "which", "share", "loose", "count"};
        Check.Doing[] calls = {x -> x.fault(), x -> x.total(0, 0), x -> x.pin(0), x -> x.test(), x -> x.filled(0),
            x -> x.mended(0) + x.mended(1), x -> x.answers(), x -> x.cell(0, 0) + x.cell(0, 1) + x.cell(0, 2), x -> x.odds(0, true),
            x -> x.ask(0) + x.ask(1), x -> x.plane(), x -> x.switches(0) + x.switches(1), x -> x.reached(), x -> x.apart(0),
            x -> x.key(0) + x.key(1), x -> x.judge(1, 10112) + x.judge(3, 200013000230102L), x -> x.which(0) + x.which(1),
            x -> x.share(0, true), x -> x.loose(5, true), x -> x.count(5)};
        for (int i = 0; i < names.length; i++) {
            Check.dueUnchanged(names[i], TermSentences::busy, calls[i], true);
            Check.dueUnchanged(names[i], TermSentences::full, calls[i], true);
            Check.dueUnchanged(names[i], TermSentences::bare, calls[i], true);
        }
    }

    private static void dueTestOfAllTotals(int h, int w) {
        int most = (int) (Math.pow(w + 1, h) * Math.pow(h + 1, w));
        for (int number = 0; number < most; number++) {
            String totals = totalsOf(number, h, w);
            TwoViews x = told("P" + h + w + totals);
            due("test of " + totals, x.test(), testOf(totals, h));
            due("whether a plane has totals " + totals, x.answers() > 0 ? 1 : 0, x.test() == NONE ? 1 : 0);
        }
    }

    private static int testOf(String totals, int h) {
        int[] rows = totals.substring(0, h).chars().map(t -> '0' - t).sorted().map(t -> -t).toArray();
        int[] columns = totals.substring(h).chars().map(t -> t - '0').toArray();
        if (Arrays.stream(rows).sum() != Arrays.stream(columns).sum()) {
            return 0;
        }
        int together = 0;
        for (int k = 1; k <= h; k++) {
            int most = 0;
            for (int total : columns) {
                most += Math.min(k, total);
            }
            together += rows[k - 1];
            if (together > most) {
                return k;
            }
        }
        return NONE;
    }

    private static void filled() {
        Check.words("Terms 2", "FILLED (if THE TEST passes; PINS aside): ROWS one after the other, the greatest TOTAL first (of like ones by number);");
        due("the test fails at 0", told("P22 11 12").filled(0), STATE);
        due("the test fails at 1", told("P33 300 300").filled(0), STATE);
        dueFilled("P22 11 11 x00", "10 01");
        dueFilled("P22 11 11 x00x01", "10 01");
        dueFilled("P33 111 111", "100 010 001");
        dueFilled("P34 132 2211", "0001 1110 1100");
        dueFilled("P45 1234 33220", "00010 11000 11100 11110");
        dueFilled("P23 12 111", "001 110");

        Check.words("Terms 2", "each is yes in as many COLUMNS as its TOTAL, those that lack the most then (their TOTAL less how many are yes there already; of like ones by number).");
        dueFilled("P23 30 111", "111 000");
        dueFilled("P23 03 111", "000 111");
        dueFilled("P15 2 10001", "10001");
        dueFilled("P41 0101 2", "0 1 0 1");
        // Columns lack 1, 2, 0, 2; then 1, 1, 0, 1; then 0, 0, 0, 1.
        dueFilled("P34 221 1202", "0101 1100 0001");
        // Columns lack 1, 3, 2; then 0, 2, 2 where row 1 is next; then 0, 1, 2.
        dueFilled("P33 311 131", "111 010 010");
        dueFilled("P11 1 1", "1");
        dueFilled("P45 5555 44444", "11111 11111 11111 11111");
    }

    private static void dueFilled(String text, String want) {
        Check.dueCells("filled of " + text, Check.filledOf(told(text)), want);
    }

    private static void mended() {
        Check.words("Terms 2", "MENDED: one TOTAL is another number (of a ROW 0 to w, of a COLUMN 0 to h) by which THE TEST passes that fails.");
        dueMended("a row's greatest total", "P12 0 11", 1, 2);
        dueMended("a row's greatest total", "P15 0 11111", 1, 5);
        dueMended("a column's greatest total", "P21 11 0", 1, 102);
        dueMended("a column's greatest total", "P41 1111 0", 1, 104);
        dueMended("the least total of either", "P11 1 0", 2, 0);
        dueMended("a column's least total", "P21 00 2", 1, 100);
        dueMended("the last column", "P25 00 00002", 1, 140);
        dueMended("the last row, its column", "P41 0001 0", 2, 30);
        dueMended("it passes", "P22 11 11", 0, NONE);
        dueMended("it passes, pins aside", "P22 11 11 x00x01", 0, NONE);
        dueMended("more than one total is wrong", "P33 300 300", 0, NONE);
        dueMended("as many as there are totals", "P22 21 11", 4, 1);
    }

    private static void dueMended(String what, String text, int howMany, int least) {
        due(what + " of " + text, told(text).mended(0), howMany);
        due(what + " of " + text, told(text).mended(1), least);
    }

    // ---- CELLS of ANSWERS

    private static void cellsOfAnswers() {
        Check.words("Terms 2", "A CELL is SURE, if it is the same in all ANSWERS, else OPEN.");
        due("one answer, yes", told("P22 20 11").cell(0, 1), 1);
        due("one answer, no", told("P22 20 11").cell(2, 1), 0);
        due("of one answer no cell is open", told("P22 20 11").count(5), 0);
        due("two answers", told("P22 11 11").count(5), 4);
        TwoViews x = told("P33 111 111 o00");
        due("open", x.count(5), 4);
        due("yes in all", x.cell(0, 1), 1);
        due("no in all", x.cell(1, 1), 0);
        due("no in all", x.cell(6, 1), 0);
        due("open", x.cell(4, 1), 2);
        due("yes in one of four", told("P33 111 111 x00").cell(4, 1), 2);
        due("no in one of four", told("P33 222 222 o00").cell(4, 1), 2);
        due("the last cell of many", told("P45 2332 22222 o34").cell(19, 1), 1);
        TwoViews allYes = told("P45 5555 44444");
        TwoViews allNo = told("P45 0000 00000");
        TwoViews allOpen = told("P45 2332 22222");
        for (int cell = 0; cell < 20; cell++) {
            due("yes in all: " + cell, allYes.cell(cell, 1), 1);
            due("no in all: " + cell, allNo.cell(cell, 1), 0);
            due("open: " + cell, allOpen.cell(cell, 1), 2);
        }
        due("no cell is open", allYes.count(5) + allNo.count(5), 0);
        due("open, of many", told("P45 2332 22222 o34").count(5), 19);

        Check.words("Terms 2", "ODDS of a CELL: in how many ANSWERS it is yes, by how many there are.");
        TwoViews y = told("P33 222 222 o00");
        Check.dueFraction("odds", y.odds(4, true), y.odds(4, false), 3, 4);
        Check.dueFraction("odds of a sure yes", y.odds(0, true), y.odds(0, false), 1, 1);
        TwoViews z = told("P33 111 111 x00");
        Check.dueFraction("odds of a sure no", z.odds(0, true), z.odds(0, false), 0, 1);
        Check.dueFraction("odds", z.odds(4, true), z.odds(4, false), 1, 4);
        Check.dueFraction("odds of one cell", new TwoViews().odds(0, true), new TwoViews().odds(0, false), 0, 1);

        Check.words("Terms 2", "ASKED: of OPEN CELLS the one for which the greater one of how many ANSWERS have it yes, and no, is least (of like ones the least CELL).");
        dueAsked("all alike", "P33 111 111", 0, 4);
        dueAsked("the sure one left out", "P33 111 111 x00", 1, 2);
        dueAsked("yes in more", "P33 222 222 o00", 1, 2);
        dueAsked("yes in three, no in three", "P24 31 1111", 0, 3);
        dueAsked("no in three, yes in three", "P24 13 1111", 0, 3);
        dueAsked("the last ones alone are open", "P33 111 111 o00", 4, 1);
        dueAsked("none is open", "P33 333 333", NONE, NONE);
    }

    private static void dueAsked(String what, String text, int cell, int greater) {
        due(what, told(text).ask(0), cell);
        due(what, told(text).ask(1), greater);
    }

    // ---- SWITCHES

    private static void switches() {
        Check.words("Terms 2", "A SWITCH of THE PLANE: ROWS r and s, COLUMNS c and d, of which (r, c) and (s, d) are yes, (r, d) and (s, c) are no, none of them PINNED;");
        TwoViews x = told("P22 11 11");
        x.go(1);
        Check.duePlane(x, "10 01");
        due("switches", x.switches(0), 1);
        due("the other way round", x.swap(0, 1, 1, 0), STATE);
        due("the other way round", x.swap(1, 0, 0, 1), STATE);
        due("one row alone", x.swap(0, 0, 0, 1), STATE);
        due("one column alone", x.swap(0, 1, 0, 0), STATE);
        due("(r, c) is no", told("P22 01 01").swap(0, 1, 0, 1), STATE);
        due("(s, d) is no", told("P22 10 10").swap(0, 1, 0, 1), STATE);
        due("(r, d) is yes", told("P22 21 12").swap(0, 1, 0, 1), STATE);
        due("(s, c) is yes", told("P22 12 21").swap(0, 1, 0, 1), STATE);
        for (String pin : new String[] {"o00", "x01", "x10", "o11"}) {
            TwoViews pinned = told("P22 11 11" + pin);
            Check.duePlane(pinned, "10 01");
            due("pinned " + pin, pinned.swap(0, 1, 0, 1), STATE);
            due("pinned " + pin, pinned.swap(1, 0, 1, 0), STATE);
            due("pinned " + pin, pinned.switches(0), 0);
        }
        for (String pins : new String[] {"o00x01", "o00x10", "x01o11", "x10o11", "o00o11", "x01x10"}) {
            TwoViews pinned = told("P22 11 11" + pins);
            due("pinned " + pins, pinned.swap(0, 1, 0, 1), STATE);
            due("pinned " + pins, pinned.switches(0), 0);
            due("pinned " + pins, pinned.switches(1), NONE);
        }
        due("pinned beside", told("P33 111 111 o20").swap(0, 1, 2, 1), 1);
        due("rows turned", x.swap(1, 0, 1, 0), 1);

        Check.words("Terms 2", "SWITCHED, these are no, those are yes.");
        Check.duePlane(x, "01 10");
        TwoViews y = told("P45 2332 22222");
        Check.duePlane(y, "00011 00111 11100 11000");
        y.swap(0, 3, 4, 0);
        Check.duePlane(y, "10010 00111 11100 01001");

        Check.words("Terms 2", "REACHED: ANSWERS that come of THE PLANE by SWITCHES, one after the other, itself, too.");
        due("itself", new TwoViews().reached(), 1);
        due("one switch", told("P22 11 11").reached(), 2);
        due("some behind others", told("P33 111 111").reached(), 6);
        due("more behind others", told("P44 1111 1111").reached(), 24);
        due("of the last rows of a narrow sheet", told("P42 0011 11").reached(), 2);
        due("of all rows of a narrow sheet", told("P42 1111 22").reached(), 6);
        TwoViews lastColumn = told("P25 41 11111");
        lastColumn.go(4);
        Check.duePlane(lastColumn, "11110 00001");
        due("by the last column alone", lastColumn.reached(), 5);
        TwoViews lastColumns = told("P25 32 11111");
        lastColumns.keep(1);
        lastColumns.go(9);
        Check.duePlane(lastColumns, "11100 00011");
        due("by the last two columns", lastColumns.reached(), 10);
        due("from all of them to all others", lastColumns.apart(1), 2);
        due("the most", told("P45 2332 22222").reached(), 310);
        TwoViews cut = told("P33 111 111 x00x11x22");
        due("two answers", cut.answers(), 2);
        due("no switch between them", cut.reached(), 1);
        cut.go(1);
        due("no switch between them", cut.reached(), 1);

        Check.words("Terms 2", "APART: of a PLANE that was kept: the fewest SWITCHES by which THE PLANE becomes it.");
        TwoViews far = told("P44 1111 1111");
        far.keep(0);
        due("itself", far.apart(0), 0);
        far.go(9);
        Check.duePlane(far, "0010 0100 1000 0001");
        due("a round of four", far.apart(0), 3);
        far.swap(0, 3, 2, 3);
        Check.duePlane(far, "0001 0100 1000 0010");
        due("a round of three", far.apart(0), 2);
        far.swap(1, 3, 1, 2);
        Check.duePlane(far, "0001 0010 1000 0100");
        due("a pair", far.apart(0), 1);
        far.swap(2, 3, 0, 1);
        due("itself again", far.apart(0), 0);
        TwoViews last = told("P25 41 11111");
        last.keep(0);
        last.go(4);
        due("by the last column alone", last.apart(0), 1);
        TwoViews narrow = told("P42 0011 11");
        narrow.keep(0);
        narrow.go(1);
        due("by the last rows of a narrow sheet", narrow.apart(0), 1);
        keys();
    }

    private static void keys() {
        Check.words("Terms 2", "A KEY: the fewest CELLS (0 to 3), such that no other ANSWER is as THE PLANE in all of them; of like ones the one whose least CELL is least, then the next one.");
        dueKey("the only answer", "P22 22 22", 0, 0, 0);
        dueKey("one of two", "P22 11 11", 0, 1, 1);
        dueKey("the second of two", "P22 11 11", 1, 1, 1);
        dueKey("two cells", "P33 111 111", 0, 2, 105);
        dueKey("the least cell is not in it", "P33 111 111 x00", 0, 1, 5);
        dueKey("another answer", "P33 111 111 x00", 1, 1, 8);
        dueKey("another answer", "P33 111 111 x00", 2, 1, 6);
        dueKey("the last cell", "P33 111 111 x00", 3, 1, 9);
        dueKey("the last cell of twenty", "P45 0111 00111 x12", 3, 1, 20);
        // Cell 0, that is no, leaves 18 answers; with row 1 and row 2 at its yes, one is left.
        dueKey("three cells", "P44 1111 1111", 0, 3, 10710);
        // A yes of row 0, then of row 1, then of row 2 before row 3.
        dueKey("three cells, the last answer", "P44 1111 1111", 23, 3, 10611);
        dueKey("three cells, two of them side by side", "P45 3222 23211", 0, 3, 10206);
        // As of four columns, each one further.
        dueKey("three cells, the least is not in it", "P45 1111 01111", 0, 3, 20913);
        dueKey("a cell of the last row", "P45 0111 11100 x10", 3, 1, 18);
        // Rows 2 and 3 of the answers: 00101 00110, 00110 00101, 00101 00101, 00101 00011.
        dueKey("one of the last two cells", "P45 3222 01323 x00x01o11o22", 0, 1, 20);
        dueKey("more than three", "P44 2222 2222", 0, NONE, NONE);
        dueKey("more than three", "P45 2332 22222", 309, NONE, NONE);
    }

    private static void dueKey(String what, String text, int answer, int howMany, int cells) {
        TwoViews x = told(text);
        x.go(answer);
        due(what + " of " + text, x.key(0), howMany);
        due(what + " of " + text, x.key(1), cells);
    }

    // ---- JUDGED

    private static void judged() {
        TwoViews x = told("P33 111 111");
        Check.words("Terms 2", "JUDGED: n doings (1 to 3), told as five figures each (the first one's are the highest of row)");
        due("one", x.judge(1, 60006L), NONE);
        due("two", x.judge(2, 60006_60006L), NONE);
        due("three", x.judge(3, 60006_60006_60006L), NONE);
        due("none", x.judge(0, 60006L), OUTSIDE);
        due("four", x.judge(4, 60006_60006_60006L), OUTSIDE);
        due("the first is nothing", x.judge(2, 60006L), 0);
        due("the first is nothing", x.judge(3, 60006_60006L), 0);
        due("the first is wrong", x.judge(2, 60007_60006L), 0);
        due("the second is wrong", x.judge(2, 60006_60007L), 1);

        Check.words("Terms 2", "(1, r, s, c, d: SWITCHED;");
        due("switched", x.judge(1, 10121L), NONE);
        due("the same, turned", x.judge(1, 11012L), NONE);
        due("no switch", x.judge(1, 10112L), 0);
        due("no such row", x.judge(1, 13121L), 0);
        due("no such row", x.judge(1, 10321L), 0);
        due("no such column", x.judge(1, 10131L), 0);
        due("no such column", x.judge(1, 10123L), 0);
        due("switched and back", x.judge(2, 10121_10112L), NONE);
        due("switched twice", x.judge(2, 10121_10121L), 1);
        due("the plane then", x.judge(3, 10121_40101_40200L), NONE);

        judgedPins(x);
        judgedTotals(x);
        judgedCells(x);

        Check.words("Terms 2", "the place (from 0 on) of the first that can not be (or is not so);");
        judgedWithoutCell(x);
        judgedWithoutCell(told("P45 2332 22222"));
        due("the first", x.judge(3, 99999_99999_99999L), 0);
        due("the second", x.judge(3, 60000_99999_99999L), 1);
        due("the third", x.judge(3, 60000_60000_99999L), 2);
        due("no such doing", x.judge(1, 0L), 0);
        due("no such doing", x.judge(1, 121L), 0);
        due("no such doing", x.judge(1, 70000L), 0);
        due("a doing behind one that can not be", x.judge(3, 10112_10121_10121L), 0);

        Check.words("Terms 2", "NONE: none.");
        due("all can be", x.judge(3, 10121_20101_50101L), NONE);
        due("nothing has changed", x.plane() + x.count(3) + x.count(6), 0);
    }

    /** No doing is so of a CELL that is not there, whatever two figures tell it. */
    private static void judgedWithoutCell(TwoViews x) {
        for (int cell = x.count(1) * x.count(2); cell <= 99; cell++) {
            for (int doing = 2; doing <= 5; doing += doing == 2 ? 2 : 1) {
                for (int v = 0; v <= 2; v++) {
                    due("doing " + doing + " of cell " + cell, x.judge(1, 10000 * doing + 100 * cell + v), 0);
                }
            }
        }
    }

    private static void judgedPins(TwoViews x) {
        Check.words("Terms 2", "2, two figures a CELL, 0, v: it is PINNED (1 yes, 2 no), or no more (0);");
        due("pinned yes", x.judge(2, 20001_50001L), NONE);
        due("pinned no", x.judge(2, 20002_50000L), NONE);
        due("no more", x.judge(3, 20001_20000_60006L), NONE);
        due("no more where there is none", x.judge(2, 20000_60006L), NONE);
        due("no such way", x.judge(1, 20003L), 0);
        due("the last cell", x.judge(2, 20801_60003L), 1);
        due("the last cell", x.judge(2, 20801_60002L), NONE);
        due("no such cell", x.judge(1, 20901L), 0);
        due("no such cell", x.judge(1, 29900L), 0);
        TwoViews wide = told("P45 2332 22222");
        due("two figures", wide.judge(2, 21901_51901L), NONE);
        due("two figures", wide.judge(1, 22001L), 0);
        TwoViews six = told(SIX_PINS);
        due("the seventh", six.judge(1, 20802L), 0);
        due("the sixth told otherwise", six.judge(1, 20501L), NONE);
        due("one less, one more", six.judge(2, 20500_20802L), NONE);
        due("no more where there is none, six elsewhere", six.judge(1, 20800L), NONE);
        due("a pin against the plane", x.judge(3, 20201_20202_40200L), NONE);
    }

    private static void judgedTotals(TwoViews x) {
        Check.words("Terms 2", "3, 0 or 1 (a ROW, a COLUMN), its number, 0, v: its TOTAL is v;");
        due("a row", x.judge(3, 30002_31002_60005L), NONE);
        due("a row", x.judge(3, 30002_31002_60006L), 2);
        due("the least", x.judge(3, 30200_31200_60002L), NONE);
        due("the greatest", x.judge(1, 30003L), NONE);
        due("more than the greatest", x.judge(1, 30004L), 0);
        due("no such row", x.judge(1, 30301L), 0);
        due("no such column", x.judge(1, 31301L), 0);
        due("neither row nor column", x.judge(1, 32001L), 0);
        TwoViews wide = told("P25 22 11110");
        due("a row's greatest", wide.judge(1, 30005L), NONE);
        due("more than a row's greatest", wide.judge(1, 30006L), 0);
        due("a column's greatest", wide.judge(1, 31402L), NONE);
        due("more than a column's greatest", wide.judge(1, 31403L), 0);
        due("no such row", wide.judge(1, 30201L), 0);
        due("no plane then, no switch", x.judge(2, 30002_10121L), 1);
        due("a row, not a column", told("P22 11 12").judge(2, 30002_60001L), NONE);
        due("a column, not a row", told("P22 12 11").judge(2, 31002_60001L), NONE);
        due("a row, not a column", told("P22 12 11").judge(2, 30002_60001L), 1);
        due("a column, not a row", told("P22 11 12").judge(2, 31002_60001L), 1);
    }

    private static void judgedCells(TwoViews x) {
        Check.words("Terms 2", "4, two figures a CELL, 0, v: it is yes (1), no (0) in THE PLANE;");
        due("yes", x.judge(1, 40201L), NONE);
        due("yes is not no", x.judge(1, 40200L), 0);
        due("no", x.judge(1, 40800L), NONE);
        due("no is not yes", x.judge(1, 40801L), 0);
        due("neither", x.judge(1, 40202L), 0);
        due("no such cell", x.judge(1, 40900L), 0);
        due("no plane", told("P33 111 110").judge(1, 40000L), 0);
        due("no plane", told("P33 111 110").judge(1, 40001L), 0);
        TwoViews wide = told("P45 2332 22222");
        String plane = Check.planeOf(wide);
        for (int cell = 0; cell < 20; cell++) {
            int yes = plane.charAt(cell) - '0';
            due("cell " + cell, wide.judge(1, 40000 + 100 * cell + yes), NONE);
            due("cell " + cell + " otherwise", wide.judge(1, 40000 + 100 * cell + 1 - yes), 0);
        }
        due("no such cell of two figures", wide.judge(1, 42000L), 0);
        due("no such cell of two figures", wide.judge(1, 42001L), 0);

        Check.words("Terms 2", "5, two figures a CELL, 0, v: it is SURE to be no (0), yes (1), or OPEN (2);");
        TwoViews y = told("P33 111 111 o00");
        for (int v = 0; v <= 3; v++) {
            due("sure to be yes, told " + v, y.judge(1, 50000 + v), v == 1 ? NONE : 0);
            due("sure to be no, told " + v, y.judge(1, 50100 + v), v == 0 ? NONE : 0);
            due("open, told " + v, y.judge(1, 50800 + v), v == 2 ? NONE : 0);
            due("no such cell, told " + v, y.judge(1, 50900 + v), 0);
            due("no answers, told " + v, told("P33 111 110").judge(1, 50000 + v), 0);
            due("no such cell of two figures, told " + v, wide.judge(1, 52000 + v), 0);
            due("the last cell of twenty, told " + v, wide.judge(1, 51900 + v), v == 2 ? NONE : 0);
        }

        Check.words("Terms 2", "6, 0, three figures: there are so many ANSWERS at least):");
        due("none at least", x.judge(1, 60000L), NONE);
        due("as many", x.judge(1, 60006L), NONE);
        due("one more", x.judge(1, 60007L), 0);
        due("many more", x.judge(1, 60999L), 0);
        due("none at least, of none", told("P33 111 110").judge(1, 60000L), NONE);
        due("one at least, of none", told("P33 111 110").judge(1, 60001L), 0);
        due("three figures", told("P45 2332 22222").judge(1, 60310L), NONE);
        due("three figures", told("P45 2332 22222").judge(1, 60311L), 0);
    }

    // ---- SEEN

    private static void seenAndWhich() {
        Check.words("Terms 3", "SEEN: that of an unknown ANSWER a CELL (a number 0 to 19) was yes (1), or was not (0; also if there is no such CELL): 6 such at most, none at first.");
        TwoViews x = told("P33 111 111");
        due("none at first", x.count(7), 0);
        due("none at first", x.which(0), 6);
        Check.dueBeside("cell", cell -> x.see(cell, 0), OUTSIDE, 0, 19);
        Check.dueBeside("v", v -> x.see(0, v), OUTSIDE, 0, 1);
        due("no such cell, not", x.see(9, 0), 1);
        due("no such cell, not", x.see(19, 0), 2);
        due("as many as before", x.which(0), 6);
        due("the first cell, not", x.see(0, 0), 3);
        due("fewer", x.which(0), 4);
        due("the last cell, yes", x.see(8, 1), 4);
        due("fewer", x.which(0), 1);
        TwoViews twice = told("P33 111 111");
        twice.see(0, 0);
        twice.see(0, 0);
        due("not, and not again", twice.which(0), 4);
        twice.see(0, 0);
        due("not for the third time", twice.which(0), 4);
        due("the same again", x.see(8, 1), 5);
        due("as many", x.which(0), 1);
        due("the sixth", x.see(8, 1), 6);
        due("the seventh", x.see(8, 1), FULL);
        due("six", x.count(7), 6);
        TwoViews y = told("P33 111 111");
        y.see(9, 1);
        due("no such cell, yes", y.which(0), 0);
        TwoViews wide = told("P45 2332 22222");
        wide.see(19, 1);
        int yes = wide.which(0);
        wide.unsee();
        wide.see(19, 0);
        due("the last of twenty", yes, wide.cell(19, 2));
        due("the last of twenty", yes + wide.which(0), 310);
        Check.tell(wide, "P11 0 0");
        wide.sheet();
        due("not, where there is no such cell any more", wide.which(0), 1);

        Check.words("Terms 3", "WHICH: ANSWERS by which all that is SEEN is so: how many; the least number; NONE.");
        TwoViews z = told("P33 111 111");
        due("nothing seen", z.which(0), 6);
        due("nothing seen", z.which(1), 0);
        z.see(0, 1);
        due("two", z.which(0), 2);
        due("the least", z.which(1), 4);
        z.see(4, 1);
        due("one", z.which(0), 1);
        due("the last one", z.which(1), 5);
        z.see(0, 0);
        due("yes and no", z.which(0), 0);
        due("yes and no", z.which(1), NONE);
        due("no answers", told("P33 111 110").which(0), 0);
        due("no answers", told("P33 111 110").which(1), NONE);
    }

    // ---- SHARES, CHANCES

    private static void sharesAndChances() {
        Check.words("Terms 3", "SHARE of a PINNED CELL: if PINS come one by one, in each order as likely: how many ANSWERS there are fewer in the mean when it has come: a FRACTION.");
        dueShares("P33 111 111 o00");
        dueShares("P33 111 111 x00o02");
        dueShares("P33 111 111 o00x01x11");
        dueShares("P22 22 22 o00x11");
        dueShares("P22 11 12 o00x11");
        dueShares(SIX_PINS);
        dueShares("P45 2332 22222 o00x01o13x22o31x34");
        dueShares("P45 2332 22222 o00o01o02o10o11o12");

        Check.words("Terms 3", "LOOSE: each PIN comes off by x tenths (0 to 10), by itself: that there is just one ANSWER then: a FRACTION.");
        for (int tenths = 0; tenths <= 10; tenths++) {
            dueLoose("P22 11 11", tenths);
            dueLoose("P22 22 22", tenths);
            dueLoose("P22 11 11 o00", tenths);
            dueLoose("P22 11 11 o00x11", tenths);
            dueLoose("P33 111 111 o00x01x11", tenths);
            dueLoose(SIX_PINS, tenths);
            dueLoose("P45 2332 22222 o00x01o13x22o31x34", tenths);
        }
        Check.dueFraction("no pin comes off", told("P22 11 11 o00").loose(0, true), told("P22 11 11 o00").loose(0, false), 1, 1);
        Check.dueFraction("each pin comes off", told("P22 11 11 o00").loose(10, true), told("P22 11 11 o00").loose(10, false), 0, 1);
        Check.dueFraction("three tenths", told("P22 11 11 o00").loose(3, true), told("P22 11 11 o00").loose(3, false), 7, 10);
        Check.dueFraction("one of none", told("P22 22 22").loose(10, true), told("P22 22 22").loose(10, false), 1, 1);
        draws();
    }

    /** How many ANSWERS there are by each set of the PINS that end a text. */
    private static int[] answersBySets(String text, List<String> pins) {
        String bare = text.replace(" ", "").replaceAll("[ox].*", "");
        int[] answers = new int[1 << pins.size()];
        for (int set = 0; set < answers.length; set++) {
            StringBuilder some = new StringBuilder(bare);
            for (int i = 0; i < pins.size(); i++) {
                some.append((set >> i & 1) == 1 ? pins.get(i) : "");
            }
            answers[set] = told(some.toString()).answers();
        }
        return answers;
    }

    private static List<String> pinsOf(String text) {
        List<String> pins = new ArrayList<>();
        String all = text.replaceAll("^[^ox]*", "");
        for (int i = 0; i < all.length(); i += 3) {
            pins.add(all.substring(i, i + 3));
        }
        return pins;
    }

    private static void dueShares(String text) {
        TwoViews x = told(text);
        List<String> pins = pinsOf(text);
        int[] answers = answersBySets(text, pins);
        long[] fewer = new long[pins.size()];
        long orders = addOrders(0, answers, fewer);
        for (int i = 0; i < pins.size(); i++) {
            int cell = x.count(2) * (pins.get(i).charAt(1) - '0') + pins.get(i).charAt(2) - '0';
            BigInteger common = BigInteger.valueOf(fewer[i]).gcd(BigInteger.valueOf(orders));
            due("share of " + pins.get(i) + " in " + text, x.share(cell, true), fewer[i] / common.longValue());
            due("share of " + pins.get(i) + " in " + text, x.share(cell, false), orders / common.longValue());
        }
    }

    /** Goes through all orders of PINS that come behind a set: how many; what each takes in all of them. */
    private static long addOrders(int come, int[] answers, long[] fewer) {
        long orders = come == answers.length - 1 ? 1 : 0;
        for (int i = 0; i < fewer.length; i++) {
            if ((come >> i & 1) == 0) {
                long behind = addOrders(come | 1 << i, answers, fewer);
                fewer[i] += behind * (answers[come] - answers[come | 1 << i]);
                orders += behind;
            }
        }
        return orders;
    }

    private static void dueLoose(String text, int tenths) {
        TwoViews x = told(text);
        List<String> pins = pinsOf(text);
        int[] answers = answersBySets(text, pins);
        long above = 0;
        for (int set = 0; set < answers.length; set++) {
            long chance = answers[set] == 1 ? 1 : 0;
            for (int i = 0; i < pins.size(); i++) {
                chance *= (set >> i & 1) == 1 ? 10 - tenths : tenths;
            }
            above += chance;
        }
        long below = Math.round(Math.pow(10, pins.size()));
        long common = BigInteger.valueOf(above).gcd(BigInteger.valueOf(below)).longValue();
        due("loose " + tenths + " of " + text, x.loose(tenths, true), above / common);
        due("loose " + tenths + " of " + text, x.loose(tenths, false), below / common);
    }

    private static void draws() {
        Check.words("Terms 3", "DRAWN by THE SEED: m times (1 to 20)");
        TwoViews x = told("P33 111 111");
        Check.dueBeside("m", x::drawn, OUTSIDE, 1, 20);
        due("once", x.drawn(1) >= 0 ? 1 : 0, 1);
        due("twenty times", x.drawn(20) >= 0 ? 1 : 0, 1);
        dueSeedAfter(0, 1);
        dueSeedAfter(0, 2);
        dueSeedAfter(0, 20);

        Check.words("Terms 3", "x (THE SEED, a long; 0 at first) becomes x times 6364136223846793005 and 1442695040888963407 (64 bits, wrapping);");
        due("0 at first", new TwoViews().seed(1), 0);
        TwoViews first = new TwoViews();
        first.drawn(1);
        due("after 0", first.seed(0), 1442695040888963407L);
        for (long seed : new long[] {1, -1, 5, Long.MAX_VALUE, Long.MIN_VALUE, 1L << 62, 3037000500L}) {
            dueSeedAfter(seed, 1);
            dueSeedAfter(seed, 20);
        }

        Check.words("Terms 3", "of its upper 31 bits v what is left by h is r, of v by 4 (down) by h s, of v by 16 by w c, of v by 128 by w d: if these are a SWITCH, it is SWITCHED, from then on: the number of the ANSWER that THE PLANE is then (0, if there is none), each time, together.");
        for (String text : new String[] {"P22 11 11", "P33 111 111", "P44 1111 1111", "P45 2332 22222", "P25 32 11111", "P43 1212 222 x31", "P34 222 1221 o02"}) {
            for (long seed = -20; seed <= 20; seed++) {
                dueDrawn(text, seed * 1234567890123456789L, 20);
            }
            dueDrawn(text, Long.MAX_VALUE, 1);
            dueDrawn(text, Long.MIN_VALUE, 19);
        }
        due("no plane", told("P33 111 110").drawn(20), 0);

        Check.words("Terms 3", "(Nothing changes but THE SEED.)");
        Check.dueUnchanged("drawn(20)", TermSentences::busy, y -> y.drawn(20), false);
        Check.dueUnchanged("drawn(1)", TermSentences::full, y -> y.drawn(1), false);
        Check.dueUnchanged("drawn(20)", TermSentences::bare, y -> y.drawn(20), false);
        TwoViews none = told("P33 111 110");
        none.drawn(1);
        due("the seed changes without a plane, too", none.seed(0), 1442695040888963407L);
    }

    private static BigInteger nextOf(BigInteger x) {
        return x.multiply(new BigInteger("6364136223846793005")).add(new BigInteger("1442695040888963407")).mod(BigInteger.TWO.pow(64));
    }

    private static void dueSeedAfter(long seed, int times) {
        TwoViews x = told("P33 111 111");
        x.seed(seed);
        x.drawn(times);
        BigInteger want = BigInteger.valueOf(seed);
        for (int i = 0; i < times; i++) {
            want = nextOf(want);
        }
        due("the seed after " + seed + " and " + times, x.seed(0), want.longValue());
    }

    /** Draws by another object that swaps, where it can. */
    private static void dueDrawn(String text, long seed, int times) {
        TwoViews walker = told(text);
        int h = walker.count(1);
        int w = walker.count(2);
        BigInteger s = BigInteger.valueOf(seed);
        int together = 0;
        for (int i = 0; i < times; i++) {
            s = nextOf(s);
            long v = s.shiftRight(33).longValueExact();
            walker.swap((int) (v % h), (int) (v / 4 % h), (int) (v / 16 % w), (int) (v / 128 % w));
            together += walker.plane();
        }
        TwoViews x = told(text);
        x.seed(seed);
        due("drawn by " + seed + " on " + text, x.drawn(times), together);
    }

    // ---- SLOTS

    private static void slots() {
        Check.words("Terms 3", "SLOTS 0 to 1 keep THE SHEET and THE PLANE (THE ROW of ACTS is empty when one goes on).");
        TwoViews x = told("P33 111 111 x00");
        Check.dueBeside("keep", x::keep, UNKNOWN, 0, 1);
        Check.dueBeside("again", x::again, UNKNOWN, 0, 1);
        Check.dueBeside("apart", x::apart, UNKNOWN, 0, 1);
        x.go(3);
        x.keep(0);
        x.setPin(0, 0);
        x.setPin(8, 1);
        x.setTotal(0, 0, 2);
        x.setTotal(1, 2, 2);
        int second = x.answers();
        x.go(second - 1);
        x.keep(1);
        due("acts stay when it is kept", x.count(6), 6);
        x.again(0);
        due("plane", x.plane(), 3);
        due("answers", x.answers(), 4);
        due("pin", x.pin(0), 2);
        due("pin", x.pin(8), 0);
        due("total", x.total(0, 0), 1);
        due("acts", x.count(6), 0);
        due("undo", x.undo(), STATE);
        x.again(1);
        due("plane", x.plane(), second - 1);
        due("pin", x.pin(0), 0);
        due("pin", x.pin(8), 1);
        due("total", x.total(0, 0), 2);
        due("total", x.total(1, 2), 2);
        x.go(0);
        x.setPin(8, 0);
        x.again(1);
        due("as it was kept, again", x.plane(), second - 1);
        due("as it was kept, again", x.pin(8), 1);
    }
}
