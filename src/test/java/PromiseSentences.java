/** The sentences of the promises 1 to 35, one after the other, each with a test of its own: its edges first of all. */
public final class PromiseSentences {
    private static final int UNKNOWN = Check.UNKNOWN, OUTSIDE = Check.OUTSIDE, STATE = Check.STATE;
    private static final int FULL = Check.FULL, NONE = Check.NONE;
    private static final int LEAST = Check.LEAST, MOST = Check.MOST;
    /** No plane has such totals, though rows and columns are as many together. */
    private static final String NO_ANSWERS = "P33 300 300";
    private static final String SIX_PINS = "P33 111 111 x00x01o02x10o11x12";

    private static int promise = 0;

    public static void main(String[] args) {
        theText();
        theSheet();
        theTest();
        theAnswers();
        oddsAndAsk();
        theActs();
        undoing();
        switchesAndReached();
        apartAndKey();
        judging();
        seeing();
        sharesAndChances();
        slots();
        counts();
        Check.dueAllQuoted("Promise", 35);
        Check.end();
    }

    private static void promise(int number, String words) {
        promise = number;
        words(words);
    }

    private static void words(String words) {
        Check.words("Promise " + promise, words);
    }

    private static void due(String call, long got, long want) {
        Check.due(call, got, want);
    }

    private static TwoViews told(String text) {
        return Check.told(text);
    }

    // ---- the sheet

    private static void theText() {
        promise(1, "One cell, that is no.");
        TwoViews x = new TwoViews();
        due("rows", x.count(1), 1);
        due("columns", x.count(2), 1);
        due("the cell", x.cell(0, 0), 0);
        due("no second one", x.cell(1, 0), UNKNOWN);
        due("answers", x.answers(), 1);
        due("plane", x.plane(), 0);
        due("letters", x.count(0), 0);
        due("acts", x.count(6), 0);
        due("seen", x.count(7), 0);
        due("nothing is kept", x.again(0), STATE);
        due("nothing is kept", x.again(1), STATE);
        due("seed", x.seed(0), 0);

        promise(2, "A letter (0 to 255) comes behind THE TEXT: how long it is.");
        due("the least letter", x.write(0), 1);
        due("the greatest letter", x.write(255), 2);
        Check.tell(x, "P11 0");
        due("behind the text", x.write('0'), 5);
        due("behind the text", x.fault(), NONE);

        words("OUTSIDE;");
        Check.dueBeside("letter", x::write, OUTSIDE, 0, 255);
        due("letters", x.count(0), 5);

        words("FULL: there are 40.");
        for (int length = 6; length <= 40; length++) {
            due("write", x.write('o'), length);
        }
        due("the 41st", x.write('o'), FULL);
        due("letters", x.count(0), 40);

        promise(3, "THE TEXT is empty: how long it was.");
        due("the longest", x.wipe(), 40);
        due("letters", x.count(0), 0);
        due("nothing to wipe", x.wipe(), 0);
        due("as at first", x.write('P'), 1);
        due("nothing of the old text is left", x.fault(), 1);
        TwoViews y = told("P22 11 11 o00");
        y.wipe();
        due("the sheet stays", y.answers(), 1);
        due("the pins stay", y.count(3), 1);

        promise(4, "FAULT; NONE.");
        Check.dueFault("", 0);
        Check.dueFault("o", 0);
        Check.dueFault("P11 0 0", NONE);
        Check.dueFault("P11 0 0 o", 6);
        Check.dueFault("P11 0 0 o00", NONE);
        TwoViews z = told("P22 11 11");
        due("of the text, not of the sheet", z.fault(), NONE);
        z.wipe();
        due("of the text, not of the sheet", z.fault(), 0);
    }

    private static void theSheet() {
        promise(5, "THE TEXT (that stays as it is) is THE SHEET");
        TwoViews x = told("P33 111 111 x00");
        due("letters", x.count(0), 12);
        due("fault", x.fault(), NONE);
        due("told again", x.sheet(), 4);
        due("rows", x.count(1), 3);
        due("pins", x.count(3), 1);
        sheetsOneAfterTheOther();

        words("(THE ROW of ACTS is empty,");
        x.go(3);
        x.setPin(1, 2);
        x.sheet();
        due("acts", x.count(6), 0);
        due("undo", x.undo(), STATE);
        due("plane", x.plane(), 0);
        due("the pin that was told behind it", x.pin(1), 0);

        words("what was kept is gone;");
        x.keep(0);
        x.keep(1);
        x.sheet();
        for (int slot = 0; slot <= 1; slot++) {
            due("again", x.again(slot), STATE);
            due("apart", x.apart(slot), STATE);
        }

        words("SEEN, THE SEED stay)");
        x.see(1, 1);
        x.see(8, 0);
        x.seed(Long.MIN_VALUE);
        x.sheet();
        due("seen", x.count(7), 2);
        due("which", x.which(0), 1);
        due("which", x.which(1), 2);
        due("seed", x.seed(0), Long.MIN_VALUE);

        words(": how many ANSWERS.");
        due("none", tellSheet(x, NO_ANSWERS), 0);
        due("one", tellSheet(x, "P11 1 1"), 1);
        due("the most", tellSheet(x, "P45 2332 22222"), 310);
        due("fewer by pins", tellSheet(x, SIX_PINS), 1);

        words("STATE: a FAULT.");
        x.keep(1);
        for (String text : new String[] {"", "P", "P45 2332 2222", "P45 2332 222222", SIX_PINS + "x20", "P11 1 2", "P11 1 1 o0"}) {
            due("sheet of '" + text + "'", tellSheet(x, text), STATE);
            due("the sheet as it was", x.count(3), 6);
            due("kept as it was", x.apart(1), 0);
        }
        totalsAndPins();
    }

    /** Nothing of a SHEET is left when another one is told that is like it. */
    private static void sheetsOneAfterTheOther() {
        TwoViews x = new TwoViews();
        dueNext(x, "P33 120 111", "001 110 000");
        dueNext(x, "P33 210 111", "011 100 000");
        dueNext(x, "P33 201 111", "011 000 100");
        dueNext(x, "P33 111 201", "001 100 100");
        dueNext(x, "P33 111 102", "001 001 100");
        dueNext(x, "P23 11 020", "010 010");
        dueNext(x, "P32 110 20", "10 10 00");
        dueNext(x, "P23 21 111", "011 100");
        dueNext(x, "P32 111 21", "01 10 10");
        dueNext(x, "P23 11 110", "010 100");
        dueNext(x, "P33 111 111 o00", "100 001 010");
        dueNext(x, "P33 111 111", "001 010 100");
        dueNext(x, "P33 111 111 x02", "010 001 100");
        dueNext(x, "P33 111 111 o02", "001 010 100");
        dueNext(x, "P33 111 111 o01", "010 001 100");
        dueNext(x, "P11 0 0", "0");
        fewerBehindMore();
        dueNone(x, "P25 10 00001", "P25 04 00001");
        dueNone(x, "P25 10 00001", "P25 05 00001");
        dueNone(x, "P42 0001 10", "P42 0001 04");
        dueNone(x, "P45 0001 00001", "P45 0000 40001");
        dueNone(x, "P33 111 111 o00", "P33 111 111 o00o01");
        dueNone(x, "P33 111 111 x00x01", "P33 111 111 x00x01x02");
    }

    /** Rows and columns of a greater sheet are not counted in a less one. */
    private static void fewerBehindMore() {
        TwoViews x = told("P45 5555 44444");
        tellSheet(x, "P33 111 111");
        due("rows together", x.count(8), 3);
        due("columns together", x.count(9), 3);
        due("test", x.test(), NONE);
        due("mended", x.mended(0), 0);
        tellSheet(x, "P33 200 200");
        due("test", x.test(), 1);
        tellSheet(x, "P11 0 0");
        due("rows together", x.count(8), 0);
        due("columns together", x.count(9), 0);
        due("filled", x.filled(0), 0);
        due("answers", x.answers(), 1);
    }

    private static void dueNone(TwoViews x, String some, String none) {
        due("whether '" + some + "' has answers", tellSheet(x, some) > 0 ? 1 : 0, 1);
        due("answers of '" + none + "' behind '" + some + "'", tellSheet(x, none), 0);
        due("plane", x.plane(), NONE);
    }

    private static void dueNext(TwoViews x, String text, String want) {
        due("whether '" + text + "' has answers", tellSheet(x, text) > 0 ? 1 : 0, 1);
        Check.duePlane(x, want);
    }

    private static int tellSheet(TwoViews x, String text) {
        Check.tell(x, text);
        return x.sheet();
    }

    private static void totalsAndPins() {
        TwoViews x = told("P45 0125 31040 x00o34");
        promise(6, "The TOTAL of a ROW (side = 0), of a COLUMN (1).");
        String rows = "0125";
        String columns = "31040";
        for (int i = 0; i < 4; i++) {
            due("row " + i, x.total(0, i), rows.charAt(i) - '0');
        }
        for (int i = 0; i < 5; i++) {
            due("column " + i, x.total(1, i), columns.charAt(i) - '0');
        }

        words("OUTSIDE: side;");
        Check.dueBeside("side", side -> x.total(side, 0), OUTSIDE, 0, 1);
        Check.dueBeside("side, and no such row", side -> x.total(side, 5), OUTSIDE, 0, 1);

        words("UNKNOWN.");
        Check.dueBeside("row", i -> x.total(0, i), UNKNOWN, 0, 3);
        Check.dueBeside("column", i -> x.total(1, i), UNKNOWN, 0, 4);
        Check.dueBeside("the one row", i -> new TwoViews().total(0, i), UNKNOWN, 0, 0);
        Check.dueBeside("the one column", i -> new TwoViews().total(1, i), UNKNOWN, 0, 0);

        promise(7, "Whether a CELL is PINNED: 1 yes, 2 no; 0.");
        due("no", x.pin(0), 2);
        due("yes", x.pin(19), 1);
        for (int cell = 1; cell < 19; cell++) {
            due("not pinned: " + cell, x.pin(cell), 0);
        }

        words("UNKNOWN.");
        Check.dueBeside("cell", x::pin, UNKNOWN, 0, 19);
        Check.dueBeside("the one cell", new TwoViews()::pin, UNKNOWN, 0, 0);
        due("a cell of another sheet", told("P33 111 111").pin(9), UNKNOWN);
    }

    // ---- the test

    private static void theTest() {
        promise(8, "Where THE TEST FAILS; NONE.");
        due("at 0", told("P33 111 112").test(), 0);
        due("at 1", told(NO_ANSWERS).test(), 1);
        due("at 2", told("P34 033 3210").test(), 2);
        due("at 3", told("P44 2220 4200").test(), 3);
        due("nowhere", told("P33 111 111").test(), NONE);
        TwoViews x = told("P33 111 111");
        x.setTotal(0, 0, 2);
        due("a total told since", x.test(), 0);
        x.undo();
        due("and undone", x.test(), NONE);

        promise(9, "Whether a CELL is yes in FILLED: 1, 0.");
        due("the first cell", told("P45 5551 43333").filled(0), 1);
        due("the last row's first cell", told("P45 5551 43333").filled(15), 1);
        due("the last cell", told("P45 5551 43333").filled(19), 0);
        due("the last cell", told("P45 5555 44444").filled(19), 1);
        due("a new object's", new TwoViews().filled(0), 0);
        Check.due("filled", Check.filledOf(told("P33 111 111")), "100010001");

        words("UNKNOWN;");
        Check.dueBeside("cell", told("P33 111 111")::filled, UNKNOWN, 0, 8);
        Check.dueBeside("cell, and the test fails", told(NO_ANSWERS)::filled, UNKNOWN, 0, 8);

        words("STATE: THE TEST FAILS.");
        due("at 0", told("P33 111 112").filled(8), STATE);
        due("at 1", told(NO_ANSWERS).filled(0), STATE);
        due("at 3", told("P44 2220 4200").filled(15), STATE);
        due("pins alone leave no answer", told("P22 11 11 x00x01").filled(0), 1);

        promise(10, "MENDED: how many such (what = 0), of these the least of 100 for a COLUMN, 10 times its number, and the TOTAL (1);");
        due("a row or its column", told("P11 1 0").mended(0), 2);
        due("a row", told("P11 1 0").mended(1), 0);
        due("a row by its number", told("P41 0001 0").mended(1), 30);
        due("a column", told("P21 11 0").mended(1), 102);
        due("a column by its number", told("P25 00 00002").mended(1), 140);
        due("all totals of either side", told("P45 2332 22221").mended(0), 9);
        due("the least of them", told("P45 2332 22221").mended(1), 1);
        due("two of one row", told("P12 1 00").mended(0), 3);

        words("NONE.");
        due("it passes", told("P33 111 111").mended(0), 0);
        due("it passes", told("P33 111 111").mended(1), NONE);
        due("one total is not enough", told(NO_ANSWERS).mended(0), 0);
        due("one total is not enough", told(NO_ANSWERS).mended(1), NONE);

        words("OUTSIDE.");
        Check.dueBeside("what", told("P33 111 111")::mended, OUTSIDE, 0, 1);
        Check.dueBeside("what, and it fails", told(NO_ANSWERS)::mended, OUTSIDE, 0, 1);
    }

    // ---- answers

    private static void theAnswers() {
        promise(11, "How many ANSWERS.");
        due("none", told(NO_ANSWERS).answers(), 0);
        due("one", new TwoViews().answers(), 1);
        due("the most", told("P45 2332 22222").answers(), 310);
        due("the most but for a pin", told("P45 2332 22222 x00").answers() + told("P45 2332 22222 o00").answers(), 310);

        TwoViews x = told("P33 111 111 x00");
        TwoViews none = told(NO_ANSWERS);
        promise(12, "Whether a CELL is yes in THE PLANE (what = 0: 1, 0;");
        due("yes", x.cell(2, 0), 1);
        due("no", x.cell(0, 0), 0);
        x.go(3);
        due("of the plane that it is now", x.cell(2, 0), 0);
        due("of the plane that it is now", x.cell(8, 0), 1);

        words("NONE: there is none),");
        for (int cell = 0; cell < 9; cell++) {
            due("no plane", none.cell(cell, 0), NONE);
        }

        words("SURE (1: 1 yes, 0 no; 2 OPEN;");
        due("no", x.cell(0, 1), 0);
        due("open", x.cell(8, 1), 2);
        due("yes", told("P33 111 111 o00").cell(0, 1), 1);
        due("no", told("P33 111 111 o00").cell(2, 1), 0);
        due("open", told("P33 111 111 o00").cell(8, 1), 2);

        words("NONE: no ANSWERS),");
        for (int cell = 0; cell < 9; cell++) {
            due("no answers", none.cell(cell, 1), NONE);
        }

        words("in how many ANSWERS it is yes (2).");
        due("in none of four", x.cell(0, 2), 0);
        due("in one of four", x.cell(4, 2), 1);
        due("in two of four", x.cell(1, 2), 2);
        due("in all", told("P33 111 111 o00").cell(0, 2), 2);
        due("no answers", none.cell(0, 2), 0);

        words("UNKNOWN;");
        for (int what = 0; what <= 3; what++) {
            int some = what;
            Check.dueBeside("cell", cell -> x.cell(cell, some), UNKNOWN, 0, 8);
            Check.dueBeside("cell, and no answers", cell -> none.cell(cell, some), UNKNOWN, 0, 8);
        }

        words("OUTSIDE.");
        Check.dueBeside("what", what -> x.cell(8, what), OUTSIDE, 0, 2);
        Check.dueBeside("what, and no answers", what -> none.cell(0, what), OUTSIDE, 0, 2);
    }

    private static void oddsAndAsk() {
        TwoViews x = told("P33 111 111 x00");
        TwoViews none = told(NO_ANSWERS);
        promise(13, "ODDS.");
        Check.dueFraction("never", x.odds(0, true), x.odds(0, false), 0, 1);
        Check.dueFraction("two of four", x.odds(1, true), x.odds(1, false), 1, 2);
        Check.dueFraction("one of four", x.odds(8, true), x.odds(8, false), 1, 4);
        Check.dueFraction("always", told("P11 1 1").odds(0, true), told("P11 1 1").odds(0, false), 1, 1);

        words("UNKNOWN;");
        for (boolean upper : new boolean[] {true, false}) {
            Check.dueBeside("cell", cell -> x.odds(cell, upper), UNKNOWN, 0, 8);
            Check.dueBeside("cell, and no answers", cell -> none.odds(cell, upper), UNKNOWN, 0, 8);
        }

        words("STATE: there are no ANSWERS.");
        due("above", none.odds(0, true), STATE);
        due("below", none.odds(8, false), STATE);
        due("none by a pin", told("P11 1 1 x00").odds(0, true), STATE);

        promise(14, "ASKED: which CELL (what = 0), that greater number (1);");
        due("which", x.ask(0), 1);
        due("greater", x.ask(1), 2);
        due("which, the first", told("P22 11 11").ask(0), 0);
        due("greater, one of two", told("P22 11 11").ask(1), 1);

        words("NONE: no CELL is OPEN.");
        for (int what = 0; what <= 1; what++) {
            due("one answer", told("P22 22 22").ask(what), NONE);
            due("one answer by pins", told("P22 11 11 o00").ask(what), NONE);
            due("no answers", none.ask(what), NONE);
            due("one cell", new TwoViews().ask(what), NONE);
        }

        words("OUTSIDE.");
        Check.dueBeside("what", x::ask, OUTSIDE, 0, 1);
        Check.dueBeside("what, and no cell is open", none::ask, OUTSIDE, 0, 1);

        promise(15, "Which ANSWER THE PLANE is;");
        due("the first", x.plane(), 0);
        x.go(3);
        due("the last", x.plane(), 3);
        TwoViews many = told("P45 2332 22222");
        many.go(309);
        due("the last of many", many.plane(), 309);

        words("NONE.");
        due("no plane", none.plane(), NONE);
    }

    // ---- acts

    private static void theActs() {
        TwoViews x = told("P33 111 111");
        TwoViews none = told(NO_ANSWERS);
        promise(16, "THE PLANE becomes ANSWER k: how many CELLS are otherwise.");
        due("none", x.go(0), 0);
        due("four", x.go(1), 4);
        due("six", x.go(5), 6);
        due("the last", x.plane(), 5);
        due("six", x.go(2), 6);
        Check.duePlane(x, "010 001 100");
        due("all", told("P22 11 11").go(1), 4);
        due("one cell", new TwoViews().go(0), 0);
        TwoViews far = told("P45 2332 22222");
        // From 00011 00111 11100 11000 to 11000 11100 00111 00011.
        due("nearly all", far.go(309), 16);

        words("UNKNOWN.");
        Check.dueBeside("answer", x::go, UNKNOWN, 0, 5);
        Check.dueBeside("no answers", none::go, UNKNOWN, 0, -1);
        Check.dueBeside("of many", far::go, UNKNOWN, 0, 309);
        due("the plane as it was", x.plane(), 2);

        promise(17, "SWITCHED: how many SWITCHES there are then.");
        due("of two by two", told("P22 11 11").swap(0, 1, 1, 0), 1);
        due("of three by three", told("P33 111 111").swap(0, 2, 2, 0), 3);
        // From 0011 1100 to 1001 0110: two and two columns that rows could give, as before.
        due("of two by four", told("P24 22 1111").swap(0, 1, 2, 0), 4);
        TwoViews pinned = told("P33 111 111 o20");
        due("with a pin beside", pinned.swap(0, 1, 2, 1), 1);
        Check.duePlane(pinned, "010 001 100");

        words("UNKNOWN: r, s, c, d;");
        Check.dueBeside("r", r -> x.swap(r, 1, 1, 2), UNKNOWN, 0, 2);
        Check.dueBeside("s", s -> x.swap(0, s, 1, 2), UNKNOWN, 0, 2);
        Check.dueBeside("c", c -> x.swap(0, 1, c, 2), UNKNOWN, 0, 2);
        Check.dueBeside("d", d -> x.swap(0, 1, 1, d), UNKNOWN, 0, 2);
        TwoViews wide = told("P25 22 11110");
        Check.dueBeside("s of two", s -> wide.swap(0, s, 0, 4), UNKNOWN, 0, 1);
        Check.dueBeside("d of five", d -> wide.swap(0, 1, 0, d), UNKNOWN, 0, 4);
        due("no such row, no plane", none.swap(0, 3, 0, 0), UNKNOWN);

        words("STATE: it is none.");
        due("the other way round", x.swap(0, 1, 2, 1), STATE);
        due("one row", x.swap(1, 1, 1, 2), STATE);
        due("one column", x.swap(0, 1, 1, 1), STATE);
        due("pinned", told("P33 111 111 o02").swap(0, 1, 2, 1), STATE);
        due("no plane", none.swap(0, 1, 0, 1), STATE);
        due("one cell", new TwoViews().swap(0, 0, 0, 0), STATE);
        due("acts as they were", x.count(6), 4);
        totalsTold();
        pinsTold();
    }

    private static void totalsTold() {
        promise(18, "The TOTAL of a ROW (side = 0), of a COLUMN (1) is v: how many ANSWERS.");
        TwoViews x = told("P23 21 111");
        due("as it is", x.setTotal(0, 0, 2), 3);
        due("a row's greatest", x.setTotal(0, 0, 3), 0);
        due("a row's least", x.setTotal(0, 1, 0), 1);
        due("a column's least", x.setTotal(1, 2, 0), 0);
        due("a row", x.setTotal(0, 0, 2), 1);
        due("a column's greatest", x.setTotal(1, 2, 2), 0);
        due("total", x.total(0, 0), 2);
        due("total", x.total(0, 1), 0);
        due("total", x.total(1, 2), 2);
        due("total", x.total(1, 1), 1);
        due("of the one cell", new TwoViews().setTotal(0, 0, 1), 0);

        words("OUTSIDE: side;");
        Check.dueBeside("side", side -> x.setTotal(side, 0, 0), OUTSIDE, 0, 1);
        Check.dueBeside("side, and all else", side -> x.setTotal(side, 9, 9), OUTSIDE, 0, 1);

        words("UNKNOWN: i;");
        Check.dueBeside("row", i -> x.setTotal(0, i, 0), UNKNOWN, 0, 1);
        Check.dueBeside("column", i -> x.setTotal(1, i, 0), UNKNOWN, 0, 2);
        Check.dueBeside("row, and its total", i -> x.setTotal(0, i, 9), UNKNOWN, 0, 1);

        words("OUTSIDE: v.");
        Check.dueBeside("a row's total", v -> x.setTotal(0, 1, v), OUTSIDE, 0, 3);
        Check.dueBeside("a column's total", v -> x.setTotal(1, 2, v), OUTSIDE, 0, 2);
        due("total", x.total(0, 1), 0);
        due("total", x.total(1, 2), 2);
        due("acts", x.count(6), 6);
    }

    private static void pinsTold() {
        promise(19, "A CELL is PINNED (v = 1 yes, 2 no), or no more (0): how many ANSWERS.");
        TwoViews x = told("P33 111 111");
        due("yes", x.setPin(0, 1), 2);
        due("pin", x.pin(0), 1);
        due("yes, as it is", x.setPin(0, 1), 2);
        due("pin", x.pin(0), 1);
        due("otherwise", x.setPin(0, 2), 4);
        due("pin", x.pin(0), 2);
        due("as it is", x.setPin(0, 2), 4);
        due("no more", x.setPin(0, 0), 6);
        due("pin", x.pin(0), 0);
        due("no more where there is none", x.setPin(0, 0), 6);
        due("the last cell", x.setPin(8, 1), 2);
        due("against it", x.setPin(7, 1), 0);
        due("of the one cell", new TwoViews().setPin(0, 1), 0);

        words("UNKNOWN;");
        Check.dueBeside("cell", cell -> x.setPin(cell, 1), UNKNOWN, 0, 8);
        Check.dueBeside("cell, and v", cell -> x.setPin(cell, 3), UNKNOWN, 0, 8);
        Check.dueBeside("cell, of no more", cell -> x.setPin(cell, 0), UNKNOWN, 0, 8);

        words("OUTSIDE: v;");
        TwoViews six = told(SIX_PINS);
        Check.dueBeside("v", v -> x.setPin(0, v), OUTSIDE, 0, 2);
        Check.dueBeside("v, and the seventh", v -> six.setPin(8, v), OUTSIDE, 0, 2);
        due("pins", x.count(3), 2);

        words("FULL: it would be the seventh.");
        due("a seventh", six.setPin(8, 1), FULL);
        due("a seventh", six.setPin(6, 2), FULL);
        due("pins", six.count(3), 6);
        due("acts", six.count(6), 0);
        due("one of the six as it is", six.setPin(0, 2), 1);
        due("one of the six otherwise", six.setPin(0, 1), 0);
        due("no more where there is none", six.setPin(8, 0), 0);
        due("one less", six.setPin(0, 0), 1);
        due("the sixth", six.setPin(8, 2), 1);
        due("a seventh again", six.setPin(7, 2), FULL);
        TwoViews five = told("P33 111 111 x00x01o02x10o11");
        due("the sixth", five.setPin(8, 2), 1);
        due("the seventh", five.setPin(7, 2), FULL);
    }

    private static void undoing() {
        promise(20, "The last ACT is undone: how many are left.");
        TwoViews x = told("P33 111 111");
        x.go(4);
        x.setPin(0, 2);
        due("the plane that does not hold", x.plane(), 0);
        due("undo", x.undo(), 1);
        due("the plane as it was before", x.plane(), 4);
        due("the pin as it was before", x.pin(0), 0);
        x.setTotal(0, 0, 0);
        due("no plane", x.plane(), NONE);
        due("undo", x.undo(), 1);
        due("the plane as it was before", x.plane(), 4);
        x.swap(0, 1, 0, 2);
        due("undo", x.undo(), 1);
        due("the plane as it was before", x.plane(), 4);
        due("undo", x.undo(), 0);
        due("the plane as it was before", x.plane(), 0);
        for (int i = 1; i <= 15; i++) {
            x.go(i % 6);
        }
        due("the last of fourteen", x.undo(), 13);

        words("STATE: there is none.");
        due("a new object", new TwoViews().undo(), STATE);
        due("a sheet told", told("P33 111 111").undo(), STATE);
        for (int left = 12; left >= 0; left--) {
            due("undo", x.undo(), left);
        }
        due("all are undone but the one that is forgotten", x.undo(), STATE);
        due("plane", x.plane(), 1);
        due("undone twice", x.undo(), STATE);
        TwoViews refused = told("P33 111 111");
        refused.go(6);
        refused.setPin(9, 1);
        due("what was refused is no act", refused.undo(), STATE);
        refused.keep(0);
        refused.go(1);
        refused.again(0);
        due("gone on from a slot", refused.undo(), STATE);
    }

    // ---- switches

    private static void switchesAndReached() {
        TwoViews none = told(NO_ANSWERS);
        promise(21, "SWITCHES: how many (what = 0; r less than s), the first as 1000 r, 100 s, 10 c and d (1; the least);");
        due("one", told("P22 11 11").switches(0), 1);
        due("r = 0, s = 1, c = 1, d = 0", told("P22 11 11").switches(1), 110);
        due("three", told("P33 111 111").switches(0), 3);
        due("r = 0, s = 1, c = 2, d = 1", told("P33 111 111").switches(1), 121);
        due("two by two columns", told("P24 22 1111").switches(0), 4);
        due("the least of four", told("P24 22 1111").switches(1), 120);
        due("the last rows alone", told("P45 0011 11000").switches(0), 1);
        due("r = 2, s = 3, c = 1, d = 0", told("P45 0011 11000").switches(1), 2310);
        due("one column of like ones", told("P25 14 11111").switches(0), 4);
        due("the last rows of a narrow sheet", told("P42 0011 11").switches(0), 1);
        due("r = 2, s = 3, c = 1, d = 0", told("P42 0011 11").switches(1), 2310);
        due("r = 1, s = 3, c = 1, d = 0", told("P42 0101 11").switches(1), 1310);
        // 010 100 001, cell 0 pinned: rows 0 and 1 have none.
        TwoViews last = told("P33 111 111 x00");
        last.go(3);
        due("r = 0, s = 2, c = 1, d = 2", last.switches(1), 212);
        // 011 001 100: of rows 0 and 1 only the first could give a column.
        due("no switch of the first rows", told("P33 211 112").switches(0), 3);
        due("no switch of the first rows", told("P33 211 112").switches(1), 210);
        // 001 011 100: of rows 0 and 1 only the second could.
        due("no switch of the first rows", told("P33 121 112").switches(0), 3);
        due("no switch of the first rows", told("P33 121 112").switches(1), 220);

        words("NONE.");
        due("none", told("P22 22 22").switches(0), 0);
        due("none", told("P22 22 22").switches(1), NONE);
        due("none by a pin", told("P22 11 11 o00").switches(1), NONE);
        due("no plane", none.switches(0), 0);
        due("no plane", none.switches(1), NONE);

        words("OUTSIDE.");
        Check.dueBeside("what", told("P22 11 11")::switches, OUTSIDE, 0, 1);
        Check.dueBeside("what, no plane", none::switches, OUTSIDE, 0, 1);

        promise(22, "REACHED: how many (0: there is no PLANE).");
        due("no plane", none.reached(), 0);
        due("itself alone", new TwoViews().reached(), 1);
        due("all", told("P33 111 111").reached(), 6);
        due("the most", told("P45 2332 22222").reached(), 310);
        due("not all", told("P33 111 111 x00x11x22").reached(), 1);
        TwoViews x = told("P33 111 111");
        due("six", x.reached(), 6);
        x.setTotal(0, 0, 0);
        due("no plane any more", x.reached(), 0);
        x.undo();
        due("six again", x.reached(), 6);
        x.setPin(0, 2);
        due("four", x.reached(), 4);
    }

    private static void apartAndKey() {
        promise(23, "APART;");
        TwoViews x = told("P33 111 111");
        x.keep(1);
        due("itself", x.apart(1), 0);
        x.go(1);
        due("one switch", x.apart(1), 1);
        x.go(3);
        due("two switches", x.apart(1), 2);
        x.keep(0);
        x.go(5);
        due("slot 0", x.apart(0), 1);
        due("slot 1", x.apart(1), 1);

        words("NONE: no SWITCHES lead there");
        TwoViews cut = told("P33 111 111 x00x11x22");
        cut.keep(0);
        cut.go(1);
        due("both are answers", cut.apart(0), NONE);
        cut.setPin(8, 0);
        due("a pin less", cut.apart(0), 2);
        x.setPin(2, 2);
        due("the kept one is no answer by a pin", x.apart(1), NONE);

        words("(other ROWS, COLUMNS;");
        TwoViews other = told("P33 111 111");
        other.keep(0);
        other.setTotal(0, 0, 2);
        other.setTotal(1, 0, 2);
        due("answers", other.answers() > 0 ? 1 : 0, 1);
        due("other totals", other.apart(0), NONE);
        other.setTotal(0, 0, 1);
        other.setTotal(1, 0, 1);
        due("the same totals again", other.apart(0) >= 0 ? 1 : 0, 1);

        words("no PLANE here, or there).");
        other.setTotal(0, 0, 0);
        due("none here", other.apart(0), NONE);
        other.keep(1);
        due("none here, none there", other.apart(1), NONE);
        other.setTotal(0, 0, 1);
        due("none there", other.apart(1), NONE);

        words("UNKNOWN;");
        Check.dueBeside("slot", other::apart, UNKNOWN, 0, 1);
        Check.dueBeside("slot, none kept", new TwoViews()::apart, UNKNOWN, 0, 1);

        words("STATE: none was kept.");
        due("slot 0", new TwoViews().apart(0), STATE);
        due("slot 1", new TwoViews().apart(1), STATE);
        due("the other slot", cut.apart(1), STATE);
        due("none was kept, no plane", told(NO_ANSWERS).apart(0), STATE);
        keys();
    }

    private static void keys() {
        TwoViews none = told(NO_ANSWERS);
        TwoViews more = told("P44 2222 2222");
        promise(24, "A KEY: of how many CELLS (what = 0;");
        due("none", told("P22 22 22").key(0), 0);
        due("one", told("P22 11 11").key(0), 1);
        due("two", told("P33 111 111").key(0), 2);
        due("three", told("P44 1111 1111").key(0), 3);

        words("NONE: more than 3, or there is no PLANE),");
        due("more than three", more.key(0), NONE);
        due("no plane", none.key(0), NONE);

        words("which as two figures each (each CELL and 1, the least one first;");
        due("one", told("P22 11 11").key(1), 1);
        due("two", told("P33 111 111").key(1), 105);
        due("three", told("P44 1111 1111").key(1), 10710);
        due("the last rows alone are open", told("P42 2211 33").key(1), 5);
        due("a cell of two figures", told("P45 0011 00011").key(1), 14);
        due("a cell of two figures", told("P45 0011 00011").key(0), 1);
        due("a cell of one figure, one of two", told("P45 0111 00111").key(1), 814);

        words("0, if it has none;");
        due("none", told("P22 22 22").key(1), 0);
        due("one cell", new TwoViews().key(1), 0);
        due("one answer by pins", told(SIX_PINS).key(1), 0);

        words("NONE) (1).");
        due("more than three", more.key(1), NONE);
        due("no plane", none.key(1), NONE);

        words("OUTSIDE.");
        Check.dueBeside("what", told("P33 111 111")::key, OUTSIDE, 0, 1);
        Check.dueBeside("what, no plane", none::key, OUTSIDE, 0, 1);
        Check.dueBeside("what, more than three", more::key, OUTSIDE, 0, 1);
    }

    private static void judging() {
        TwoViews x = told("P33 111 111");
        promise(25, "JUDGED;");
        due("the first", x.judge(3, 60007_60006_60006L), 0);
        due("the second", x.judge(3, 60006_60007_60006L), 1);
        due("the third", x.judge(3, 60006_60006_60007L), 2);
        due("one after the other", x.judge(3, 20001_60002_60003L), 2);

        words("NONE.");
        due("all are so", x.judge(3, 60006_60006_60006L), NONE);

        words("OUTSIDE: n,");
        Check.dueBeside("n", n -> x.judge(n, 60006L), OUTSIDE, 1, 3);
        Check.dueBeside("n, of row 0", n -> x.judge(n, 0L), OUTSIDE, 1, 3);

        words("row (0 or more, 5 n figures at most).");
        long[] most = {99999L, 99999_99999L, 99999_99999_99999L};
        for (int n = 1; n <= 3; n++) {
            due("the least row", x.judge(n, 0), 0);
            due("less than the least", x.judge(n, -1), OUTSIDE);
            due("far less", x.judge(n, Long.MIN_VALUE), OUTSIDE);
            due("the greatest row", x.judge(n, most[n - 1]), 0);
            due("more than the greatest", x.judge(n, most[n - 1] + 1), OUTSIDE);
            due("far more", x.judge(n, Long.MAX_VALUE), OUTSIDE);
        }
    }

    // ---- seen

    private static void seeing() {
        promise(26, "SEEN: how many there are.");
        TwoViews x = told("P33 111 111");
        for (int i = 1; i <= 5; i++) {
            due("see", x.see(i, 0), i);
        }

        words("OUTSIDE: cell (0 to 19), v (0, 1);");
        Check.dueBeside("cell", cell -> x.see(cell, 0), OUTSIDE, 0, 19);
        Check.dueBeside("v", v -> x.see(0, v), OUTSIDE, 0, 1);
        TwoViews edges = new TwoViews();
        due("the least", edges.see(0, 0), 1);
        due("the greatest", edges.see(19, 1), 2);

        words("FULL: 6.");
        due("the sixth", x.see(0, 0), 6);
        due("the seventh", x.see(0, 0), FULL);
        due("what was seen already", x.see(1, 0), FULL);
        due("and no such cell", x.see(20, 0), OUTSIDE);
        due("seen", x.count(7), 6);
        due("which", x.which(0), 0);

        promise(27, "Nothing is SEEN: how much there was.");
        due("six", x.unsee(), 6);
        due("seen", x.count(7), 0);
        due("which", x.which(0), 6);
        due("none", x.unsee(), 0);
        due("the first again", x.see(8, 1), 1);
        due("which", x.which(0), 2);
        due("one", x.unsee(), 1);
        TwoViews wide = told("P45 2332 22222");
        for (int v = 0; v <= 1; v++) {
            for (int cell = 0; cell < 20; cell++) {
                wide.see(cell, v);
                due("cell " + cell, wide.unsee(), 1);
                due("which", wide.which(0), 310);
            }
        }

        TwoViews none = told(NO_ANSWERS);
        promise(28, "WHICH: how many (what = 0), the least number (1);");
        due("nothing seen, all", x.which(0), 6);
        due("nothing seen, the first", x.which(1), 0);
        x.see(0, 1);
        due("two", x.which(0), 2);
        due("the least", x.which(1), 4);
        x.see(8, 1);
        due("one", x.which(0), 1);
        due("the last", x.which(1), 5);

        words("NONE.");
        x.see(8, 0);
        due("none", x.which(0), 0);
        due("none", x.which(1), NONE);
        due("no answers", none.which(0), 0);
        due("no answers", none.which(1), NONE);

        words("OUTSIDE.");
        Check.dueBeside("what", x::which, OUTSIDE, 0, 1);
        Check.dueBeside("what, no answers", none::which, OUTSIDE, 0, 1);
    }

    // ---- shares, chances

    private static void sharesAndChances() {
        promise(29, "SHARE.");
        TwoViews x = told("P33 111 111 o00x01x11");
        // Answers by none 6, o00 2, x01 4, x11 4, o00x01 2, o00x11 1, x01x11 2, all 1.
        Check.dueFraction("15 of 6", x.share(0, true), x.share(0, false), 5, 2);
        Check.dueFraction("6 of 6", x.share(1, true), x.share(1, false), 1, 1);
        Check.dueFraction("9 of 6", x.share(4, true), x.share(4, false), 3, 2);
        TwoViews nothing = told("P22 22 22 o00");
        Check.dueFraction("no fewer", nothing.share(0, true), nothing.share(0, false), 0, 1);
        TwoViews all = told("P11 1 1 x00");
        Check.dueFraction("none left", all.share(0, true), all.share(0, false), 1, 1);
        TwoViews none = told(NO_ANSWERS + "o00");
        Check.dueFraction("none at first", none.share(0, true), none.share(0, false), 0, 1);

        words("UNKNOWN;");
        Check.dueBeside("cell, above", cell -> x.share(cell, true), UNKNOWN, 0, 8);
        Check.dueBeside("cell, below", cell -> x.share(cell, false), UNKNOWN, 0, 8);

        words("STATE: it is not PINNED.");
        for (boolean upper : new boolean[] {true, false}) {
            due("beside pins", x.share(2, upper), STATE);
            due("no pins", told("P33 111 111").share(8, upper), STATE);
            due("one cell", new TwoViews().share(0, upper), STATE);
        }
        x.setPin(0, 0);
        due("no more pinned", x.share(0, true), STATE);
        x.undo();
        due("pinned again", x.share(0, true), 5);

        promise(30, "LOOSE.");
        TwoViews y = told("P22 11 11 o00");
        Check.dueFraction("never off", y.loose(0, true), y.loose(0, false), 1, 1);
        Check.dueFraction("one tenth", y.loose(1, true), y.loose(1, false), 9, 10);
        Check.dueFraction("nine tenths", y.loose(9, true), y.loose(9, false), 1, 10);
        Check.dueFraction("always off", y.loose(10, true), y.loose(10, false), 0, 1);
        Check.dueFraction("no pins, one cell", new TwoViews().loose(5, true), new TwoViews().loose(5, false), 1, 1);
        // Any one of the four pins is enough: 1 less 1 by 10000.
        TwoViews four = told("P22 11 11 o00x01x10o11");
        Check.dueFraction("four pins", four.loose(1, true), four.loose(1, false), 9999, 10000);

        words("OUTSIDE: x.");
        Check.dueBeside("x, above", some -> y.loose(some, true), OUTSIDE, 0, 10);
        Check.dueBeside("x, below", some -> y.loose(some, false), OUTSIDE, 0, 10);

        promise(31, "THE SEED is v: what it was.");
        TwoViews z = told("P22 11 11");
        long before = 0;
        for (long seed : new long[] {1, -1, Long.MAX_VALUE, Long.MIN_VALUE, 0}) {
            due("what it was", z.seed(seed), before);
            before = seed;
        }
        due("what it was", z.seed(0), 0);

        promise(32, "DRAWN.");
        // The upper bits are 167951807: r, s, c, d are 1, 1, 1, 1.
        due("no switch", z.drawn(1), 0);
        due("the seed then", z.seed(0), 1442695040888963407L);
        // 1059165278: 0, 1, 1, 0; 393447563: 1, 0, 0, 1; 1649717740: 0, 1, 0, 1; 984000026: 0, 0, 1, 0.
        due("a switch", drawnBy("P22 11 11", 7, 1), 1);
        due("a switch, rows turned", drawnBy("P22 11 11", 9, 1), 1);
        due("a switch the other way round", drawnBy("P22 11 11", 2, 1), 0);
        due("one row", drawnBy("P22 11 11", 4, 1), 0);
        due("a switch but for a pin", drawnBy("P22 11 11 o01", 7, 1), 0);
        due("by seed 5, once", drawnBy("P33 111 111 x00o02", 5, 1), 0);
        due("by seed 5, together", drawnBy("P33 111 111 x00o02", 5, 20), 5);
        due("no plane", told(NO_ANSWERS).drawn(20), 0);

        words("OUTSIDE: m.");
        Check.dueBeside("m", z::drawn, OUTSIDE, 1, 20);
        due("the seed as it was", z.seed(0), 0);
        Check.dueBeside("m, no plane", told(NO_ANSWERS)::drawn, OUTSIDE, 1, 20);
        due("the least", z.drawn(1) >= 0 ? 1 : 0, 1);
        due("the greatest", z.drawn(20) >= 0 ? 1 : 0, 1);
    }

    private static int drawnBy(String text, long seed, int times) {
        TwoViews x = told(text);
        x.seed(seed);
        return x.drawn(times);
    }

    // ---- slots

    private static void slots() {
        promise(33, "They are kept: how many CELLS.");
        due("one", new TwoViews().keep(0), 1);
        due("nine", told("P33 111 111").keep(1), 9);
        due("twenty", told("P45 2332 22222").keep(0), 20);
        TwoViews x = told("P33 111 111");
        x.go(2);
        due("both", x.keep(0) + x.keep(1), 18);
        x.go(4);
        due("kept anew", x.keep(1), 9);
        due("the other one stays", x.apart(0) > 0 ? 1 : 0, 1);
        due("kept anew", x.apart(1), 0);
        due("without a plane", told(NO_ANSWERS).keep(0), 9);

        words("UNKNOWN.");
        Check.dueBeside("slot", x::keep, UNKNOWN, 0, 1);

        promise(34, "They are as they were kept: how many CELLS.");
        due("slot 0", x.again(0), 9);
        due("plane", x.plane(), 2);
        due("slot 1", x.again(1), 9);
        due("plane", x.plane(), 4);
        x.setPin(0, 2);
        x.setTotal(0, 2, 0);
        due("slot 1 again", x.again(1), 9);
        due("pin", x.pin(0), 0);
        due("total", x.total(0, 2), 1);
        due("plane", x.plane(), 4);
        due("acts", x.count(6), 0);
        TwoViews wide = told("P45 2332 22222");
        wide.keep(1);
        due("twenty", wide.again(1), 20);
        TwoViews none = told(NO_ANSWERS);
        none.keep(0);
        none.setTotal(1, 0, 1);
        none.setTotal(1, 1, 1);
        none.setTotal(1, 2, 1);
        due("a plane", none.plane(), 0);
        due("kept without a plane", none.again(0), 9);
        due("no plane", none.plane(), NONE);

        words("UNKNOWN;");
        Check.dueBeside("slot", x::again, UNKNOWN, 0, 1);
        Check.dueBeside("slot, none kept", new TwoViews()::again, UNKNOWN, 0, 1);

        words("STATE: none were kept.");
        due("slot 0", new TwoViews().again(0), STATE);
        due("slot 1", new TwoViews().again(1), STATE);
        due("the other slot", none.again(1), STATE);
        due("the other slot", wide.again(0), STATE);
    }

    private static void counts() {
        promise(35, "0 letters of THE TEXT,");
        TwoViews x = told("P34 210 1110 x00");
        TwoViews none = told(NO_ANSWERS);
        TwoViews fresh = new TwoViews();
        due("none", fresh.count(0), 0);
        due("letters", x.count(0), 13);
        words("1 ROWS,");
        due("one", fresh.count(1), 1);
        due("rows", x.count(1), 3);
        due("the most", told("P45 2332 22222").count(1), 4);
        words("2 COLUMNS,");
        due("one", fresh.count(2), 1);
        due("columns", x.count(2), 4);
        due("the most", told("P45 2332 22222").count(2), 5);
        words("3 PINS,");
        due("none", fresh.count(3), 0);
        due("pins", x.count(3), 1);
        due("six", told(SIX_PINS).count(3), 6);
        words("4 CELLS that are yes in THE PLANE");
        due("none", fresh.count(4), 0);
        due("yes", x.count(4), 3);
        due("all", told("P45 5555 44444").count(4), 20);
        words("(0: there is none),");
        due("no plane", none.count(4), 0);
        words("5 CELLS that are OPEN,");
        due("none", fresh.count(5), 0);
        due("some", told("P33 111 111 o00").count(5), 4);
        due("all", told("P45 2332 22222").count(5), 20);
        due("no answers", none.count(5), 0);
        words("6 ACTS in the row,");
        due("none", fresh.count(6), 0);
        for (int acts = 1; acts <= 20; acts++) {
            x.go(0);
            due("acts", x.count(6), Math.min(acts, 14));
        }
        words("7 SEEN,");
        due("none", fresh.count(7), 0);
        for (int seen = 1; seen <= 7; seen++) {
            x.see(0, 0);
            due("seen", x.count(7), Math.min(seen, 6));
        }
        words("8 TOTALS of ROWS together,");
        due("none", fresh.count(8), 0);
        due("rows", told("P33 321 112").count(8), 6);
        due("all", told("P45 5555 00000").count(8), 20);
        words("9 those of COLUMNS.");
        due("none", fresh.count(9), 0);
        due("columns", told("P33 321 112").count(9), 4);
        due("all", told("P45 0000 44444").count(9), 20);
        words("OUTSIDE.");
        Check.dueBeside("what", x::count, OUTSIDE, 0, 9);
        Check.dueAlike("what", none::count, OUTSIDE, LEAST, -9, -1, 10, 19, MOST);
    }
}
