/** The promises of the document one by one: ordinary inputs, edges, wrong inputs. */
public final class Promises {
    private static final int UNKNOWN = Check.UNKNOWN, OUTSIDE = Check.OUTSIDE, STATE = Check.STATE;
    private static final int FULL = Check.FULL, NONE = Check.NONE;
    private static final int LEAST = Check.LEAST, MOST = Check.MOST;

    public static void main(String[] args) {
        newObject();
        writing();
        wiping();
        faults();
        sheets();
        totalsAndPins();
        tests();
        filling();
        mending();
        answersAndCells();
        odds();
        asking();
        going();
        swapping();
        settingTotals();
        settingPins();
        undoing();
        switching();
        reaching();
        measuring();
        keys();
        judging();
        seeing();
        shares();
        loosening();
        drawing();
        keeping();
        counting();
        Check.end();
    }

    private static void promise(int number) {
        Check.at("Promise " + number);
    }

    private static void due(String call, long got, long want) {
        Check.due(call, got, want);
    }

    private static void refuses(String call, Check.Asked asked, long want, int... numbers) {
        Check.dueAlike(call, asked, want, numbers);
    }

    private static TwoViews told(String text) {
        return Check.told(text);
    }

    private static void tell(TwoViews x, String text) {
        Check.tell(x, text);
    }

    private static void duePlane(TwoViews x, String want) {
        Check.duePlane(x, want);
    }

    private static void newObject() {
        promise(1);
        TwoViews x = new TwoViews();
        due("rows", x.count(1), 1);
        due("columns", x.count(2), 1);
        due("pins", x.count(3), 0);
        due("letters", x.count(0), 0);
        due("acts", x.count(6), 0);
        due("seen", x.count(7), 0);
        due("total", x.total(0, 0), 0);
        due("total", x.total(1, 0), 0);
        due("answers", x.answers(), 1);
        due("cell", x.cell(0, 0), 0);
        due("keep", x.again(0), STATE);
        due("keep", x.again(1), STATE);
        due("seed", x.seed(1), 0);
    }

    private static void writing() {
        promise(2);
        TwoViews x = new TwoViews();
        refuses("write", x::write, OUTSIDE, -1, 256, LEAST, MOST);
        due("write", x.write(0), 1);
        due("write", x.write(255), 2);
        for (int i = 3; i <= 40; i++) {
            due("write", x.write('P'), i);
        }
        due("write", x.write('P'), FULL);
        due("write", x.write(256), OUTSIDE);
        due("letters", x.count(0), 40);
    }

    private static void wiping() {
        promise(3);
        due("wipe", new TwoViews().wipe(), 0);
        TwoViews x = told("P22 11 11");
        due("wipe", x.wipe(), 7);
        due("wipe", x.wipe(), 0);
        due("letters", x.count(0), 0);
        due("the sheet stays", x.answers(), 2);
    }

    private static void dueFault(String text, int want) {
        TwoViews x = new TwoViews();
        for (char letter : text.toCharArray()) {
            x.write(letter);
        }
        due("fault of '" + text + "'", x.fault(), want);
        due("length of '" + text + "'", x.count(0), text.length());
        due("sheet of '" + text + "'", x.sheet() >= 0 ? 0 : x.sheet(), want == NONE ? 0 : STATE);
    }

    private static void faults() {
        promise(4);
        dueFault("", 0);
        dueFault("p1100", 0);
        dueFault("P", 1);
        dueFault("P0", 1);
        dueFault("P5", 1);
        dueFault("Po", 1);
        dueFault("P1", 2);
        dueFault("P10", 2);
        dueFault("P16", 2);
        dueFault("P11", 3);
        dueFault("P112", 3);
        dueFault("P11/", 3);
        dueFault("P111", 4);
        dueFault("P1112", 4);
        dueFault("P1111", NONE);
        dueFault("P1110", NONE);
        dueFault("P155", 4);
        dueFault("P15511111", NONE);
        dueFault("P15511112", 8);
        dueFault("P411111", 7);
        dueFault("P4111114", NONE);
        dueFault("P4111115", 7);
        dueFault("P111 ", 4);
        dueFault("P1111 ", 5);
        dueFault("P1111O00", 5);
        dueFault("P1111o", 6);
        dueFault("P1111o0", 7);
        dueFault("P1111o00", NONE);
        dueFault("P1111x00", NONE);
        dueFault("P1111o1", 6);
        dueFault("P1111o01", 7);
        dueFault("P1111o00x", 8);
        dueFault("P1111o00x00", 8);
        dueFault("P221111o00x0", 12);
        dueFault("P221111o00x00", 12);
        dueFault("P221111o00x01", NONE);
        dueFault("P221111o00x01x0", 14);
        dueFault("P221111o00x01x10", NONE);
        dueFault("P221111o00x01x10o11", NONE);
        dueFault("P221111o00x01x10o11o", 19);
        dueFault("P45222222222o00o01o02o03o04o10", NONE);
        dueFault("P45222222222o00o01o02o03o04o10o", 30);
        dueFault("P45222222222o00o01o02o03o04o0", 28);
        dueFault("P45222222222o00o01o02o03o04o10o11o12oo", 30);
        dueFault("P45222222222x34o4", 16);
        dueFault("P45222222222x35", 14);
        TwoViews x = new TwoViews();
        tell(x, "P11 1 1 o00");
        tell(x, "P11 1 1 o");
        due("letters that were wiped", x.fault(), 6);
        tell(x, "P11 1");
        due("letters that were wiped", x.fault(), 4);
        tell(x, "P11 1 1");
        due("letters that were wiped", x.fault(), NONE);
        tell(x, "");
        due("letters that were wiped", x.fault(), 0);
        tell(x, "P12 1 01 o01");
        x.sheet();
        tell(x, "P12 1 10");
        x.sheet();
        due("pins that were told before", x.count(3), 0);
        due("pins that were told before", x.answers(), 1);
        tell(x, "P");
        for (int i = 2; i <= 40; i++) {
            x.write('1');
        }
        due("forty letters", x.fault(), 5);
    }

    private static void sheets() {
        promise(5);
        TwoViews x = told("P22 11 11");
        duePlane(x, "01 10");
        x.go(1);
        x.keep(0);
        x.keep(1);
        x.see(0, 1);
        x.seed(77);
        due("letters stay", x.count(0), 7);
        tell(x, "P33 111 11");
        due("sheet", x.sheet(), STATE);
        due("what is refused changes nothing", x.plane(), 1);
        due("acts", x.count(6), 1);
        due("kept", x.apart(0), 0);
        x.write('1');
        due("sheet", x.sheet(), 6);
        duePlane(x, "001 010 100");
        due("letters stay", x.count(0), 9);
        due("acts", x.count(6), 0);
        due("undo", x.undo(), STATE);
        due("kept", x.again(0), STATE);
        due("kept", x.apart(1), STATE);
        due("seen", x.count(7), 1);
        due("seed", x.seed(0), 77);
        tell(x, "P33 111 1111");
        due("sheet", x.sheet(), STATE);
        tell(x, "P33 211 111 x00o22");
        due("sheet", x.sheet(), 0);
        due("plane", x.plane(), NONE);
        due("pins", x.count(3), 2);
        tell(x, "P33 211 112 x00o22");
        due("sheet", x.sheet(), 1);
        duePlane(x, "011 100 001");
    }

    private static void totalsAndPins() {
        promise(6);
        TwoViews x = told("P23 21 012 o01x12");
        due("total", x.total(0, 0), 2);
        due("total", x.total(0, 1), 1);
        due("total", x.total(1, 0), 0);
        due("total", x.total(1, 1), 1);
        due("total", x.total(1, 2), 2);
        refuses("row", i -> x.total(0, i), UNKNOWN, -1, 2, LEAST, MOST);
        refuses("column", i -> x.total(1, i), UNKNOWN, -1, 3, LEAST, MOST);
        refuses("side", side -> x.total(side, 9), OUTSIDE, -1, 2, LEAST, MOST);
        promise(7);
        due("pin", x.pin(0), 0);
        due("pin", x.pin(1), 1);
        due("pin", x.pin(5), 2);
        refuses("pin", x::pin, UNKNOWN, -1, 6, 19, LEAST, MOST);
    }

    private static void tests() {
        promise(8);
        due("as many", told("P33 111 111").test(), NONE);
        due("not as many", told("P33 111 112").test(), 0);
        due("not as many, and more", told("P33 300 301").test(), 0);
        due("pins aside", told("P33 111 111 x00x01x02").test(), NONE);
        due("one row", told("P33 300 300").test(), 1);
        due("one row, the last", told("P33 003 120").test(), 1);
        due("one column", told("P33 111 300").test(), NONE);
        due("two rows", told("P34 033 2220").test(), NONE);
        due("two rows", told("P34 033 3210").test(), 2);
        due("three rows", told("P44 2220 3300").test(), NONE);
        due("three rows", told("P44 3331 4411").test(), 3);
        due("three rows", told("P44 3330 4320").test(), 3);
        due("three rows", told("P44 2220 4200").test(), 3);
        due("all", told("P44 4444 4444").test(), NONE);
    }

    private static void filling() {
        promise(9);
        Check.dueCells("filled, pins aside", Check.filledOf(told("P33 111 111 o02")), "100 010 001");
        // Row 1 takes columns 0, 1, 2; row 2 those that still lack one: 0, 1 by number; row 0 column 3.
        Check.dueCells("greatest first", Check.filledOf(told("P34 132 2211")), "0001 1110 1100");
        // Row 0 takes columns 1 and 3, that lack the most; row 1 finds them lacking one, as 0 does.
        Check.dueCells("lacking the most", Check.filledOf(told("P24 21 1101")), "1100 0001");
        Check.dueCells("lacking the most", Check.filledOf(told("P34 221 1202")), "0101 1100 0001");
        Check.dueCells("four rows, the last first", Check.filledOf(told("P45 1234 33220")), "00010 11000 11100 11110");
        TwoViews x = told("P34 132 2211");
        refuses("filled", x::filled, UNKNOWN, -1, 12, LEAST, MOST);
        due("filled", told("P33 300 300").filled(0), STATE);
        due("filled", told("P33 300 301").filled(0), STATE);
        due("filled", told("P33 300 300").filled(9), UNKNOWN);
    }

    private static void mending() {
        promise(10);
        TwoViews x = told("P22 11 11");
        due("mended", x.mended(0), 0);
        due("mended", x.mended(1), NONE);
        x = told("P22 21 11");
        // Either row is one less, or either column is one more.
        due("mended", x.mended(0), 4);
        due("mended", x.mended(1), 1);
        due("nothing changes", x.total(0, 0), 2);
        due("nothing changes", x.answers(), 0);
        x = told("P22 00 02");
        // Column 1 is 0; a row of 2 would not do, as column 0 has none for it.
        due("mended", x.mended(0), 1);
        due("mended", x.mended(1), 110);
        x = told("P33 300 300");
        due("mended", x.mended(0), 0);
        due("mended", x.mended(1), NONE);
        refuses("mended", x::mended, OUTSIDE, -1, 2, LEAST, MOST);
        refuses("mended", told("P22 11 11")::mended, OUTSIDE, -1, 2, LEAST, MOST);
    }

    private static void answersAndCells() {
        promise(11);
        due("answers", told("P33 111 111").answers(), 6);
        due("answers", told("P45 2332 22222").answers(), 310);
        due("answers", told("P44 2222 2222").answers(), 90);
        due("answers", told("P33 111 112").answers(), 0);
        due("answers", told("P33 111 111 o00").answers(), 2);
        due("answers", told("P33 111 111 o00o01").answers(), 0);
        duePlane(told("P15 1 00001"), "00001");
        duePlane(told("P15 2 10001"), "10001");
        duePlane(told("P15 5 11111"), "11111");
        duePlane(told("P41 1111 4"), "1 1 1 1");
        duePlane(told("P45 5050 22222"), "11111 00000 11111 00000");
        TwoViews moved = told("P33 111 111");
        due("answers", moved.setTotal(0, 0, 2), 0);
        due("answers", moved.setTotal(0, 1, 0), 3);
        due("answers", moved.setTotal(0, 0, 0), 0);
        due("answers", moved.setTotal(0, 2, 3), 1);
        due("answers", moved.setTotal(1, 0, 2), 0);
        due("answers", moved.setTotal(1, 1, 0), 0);
        TwoViews turned = told("P23 21 111");
        tell(turned, "P32 211 11");
        due("the same figures, other rows", turned.sheet(), 0);
        tell(turned, "P23 21 111");
        due("the same figures, other rows", turned.sheet(), 3);
        promise(12);
        TwoViews x = told("P33 111 111 x00");
        due("cell", x.cell(2, 0), 1);
        due("cell", x.cell(1, 0), 0);
        due("cell", x.cell(0, 1), 0);
        due("cell", x.cell(1, 1), 2);
        due("cell", x.cell(1, 2), 2);
        due("cell", x.cell(0, 2), 0);
        due("cell", x.cell(4, 2), 1);
        x.setPin(0, 1);
        due("cell", x.cell(0, 1), 1);
        due("cell", x.cell(0, 2), 2);
        x.setPin(1, 1);
        due("cell", x.cell(0, 0), NONE);
        due("cell", x.cell(0, 1), NONE);
        due("cell", x.cell(0, 2), 0);
        refuses("cell", cell -> told("P33 111 111").cell(cell, 3), UNKNOWN, -1, 9, LEAST, MOST);
        refuses("cell", what -> told("P33 111 111").cell(0, what), OUTSIDE, -1, 3, LEAST, MOST);
    }

    private static void odds() {
        promise(13);
        TwoViews x = told("P33 111 111");
        due("odds", x.odds(8, true), 1);
        due("odds", x.odds(8, false), 3);
        x = told("P33 111 111 x00");
        due("odds", x.odds(0, true), 0);
        due("odds", x.odds(0, false), 1);
        due("odds", x.odds(4, true), 1);
        due("odds", x.odds(4, false), 4);
        x = told("P33 111 111 o00");
        due("odds", x.odds(0, true), 1);
        due("odds", x.odds(0, false), 1);
        for (boolean upper : new boolean[] {true, false}) {
            due("odds", x.odds(9, upper), UNKNOWN);
            due("odds", x.odds(-1, upper), UNKNOWN);
            due("odds", told("P33 111 112").odds(0, upper), STATE);
            due("odds", told("P33 111 112").odds(9, upper), UNKNOWN);
        }
    }

    private static void asking() {
        promise(14);
        TwoViews x = told("P33 111 111 x00");
        // Four answers; cells 1 and 2 have two yes and two no.
        due("ask", x.ask(0), 1);
        due("ask", x.ask(1), 2);
        due("ask", told("P33 111 111").ask(0), 0);
        due("ask", told("P33 111 111").ask(1), 4);
        due("ask", told("P22 22 00").ask(0), NONE);
        due("ask", told("P22 22 22").ask(0), NONE);
        due("ask", told("P22 22 22").ask(1), NONE);
        due("ask", told("P22 22 21").ask(1), NONE);
        refuses("ask", x::ask, OUTSIDE, -1, 2, LEAST, MOST);
        refuses("ask", told("P22 22 21")::ask, OUTSIDE, -1, 2, LEAST, MOST);
        promise(15);
        due("plane", x.plane(), 0);
        x.go(3);
        due("plane", x.plane(), 3);
        due("plane", told("P22 22 21").plane(), NONE);
    }

    private static void going() {
        promise(16);
        TwoViews x = told("P33 111 111");
        due("go", x.go(0), 0);
        due("also an act", x.count(6), 1);
        due("go", x.go(5), 4);
        duePlane(x, "100010001");
        due("go", x.go(4), 4);
        duePlane(x, "100001010");
        due("go", x.go(2), 4);
        duePlane(x, "010 001 100");
        due("go", x.go(5), 6);
        due("acts", x.count(6), 5);
        refuses("go", x::go, UNKNOWN, -1, 6, LEAST, MOST);
        due("acts", x.count(6), 5);
        due("go", told("P22 22 21").go(0), UNKNOWN);
    }

    private static void swapping() {
        promise(17);
        TwoViews x = told("P33 111 111");
        due("swap", x.swap(0, 1, 2, 1), 3);
        duePlane(x, "010001100");
        due("acts", x.count(6), 1);
        due("turned", x.swap(1, 0, 2, 1), 3);
        duePlane(x, "001010100");
        due("not there", x.swap(0, 1, 1, 2), STATE);
        due("same row", x.swap(0, 0, 2, 1), STATE);
        due("same column", x.swap(0, 1, 2, 2), STATE);
        due("acts", x.count(6), 2);
        refuses("swap", r -> told("P33 111 111").swap(r, 1, 2, 1), UNKNOWN, -1, 3, LEAST, MOST);
        refuses("swap", s -> told("P33 111 111").swap(0, s, 2, 1), UNKNOWN, -1, 3, LEAST, MOST);
        refuses("swap", c -> told("P33 111 111").swap(0, 1, c, 1), UNKNOWN, -1, 3, LEAST, MOST);
        refuses("swap", d -> told("P33 111 111").swap(0, 1, 2, d), UNKNOWN, -1, 3, LEAST, MOST);
        due("pinned yes", told("P33 111 111 o02").swap(0, 1, 2, 1), STATE);
        due("pinned yes", told("P33 111 111 o11").swap(0, 1, 2, 1), STATE);
        due("pinned no", told("P33 111 111 x01").swap(0, 1, 2, 1), STATE);
        due("pinned no", told("P33 111 111 x12").swap(0, 1, 2, 1), STATE);
        due("pinned beside", told("P33 111 111 o20").swap(0, 1, 2, 1), 1);
        due("no plane", told("P22 22 21").swap(0, 1, 0, 1), STATE);
        due("no plane", told("P22 22 21").swap(0, 2, 0, 1), UNKNOWN);
    }

    private static void settingTotals() {
        promise(18);
        TwoViews x = told("P33 111 111");
        due("same", x.setTotal(0, 0, 1), 6);
        due("also an act", x.count(6), 1);
        x.go(4);
        due("setTotal", x.setTotal(0, 0, 2), 0);
        due("plane", x.plane(), NONE);
        due("setTotal", x.setTotal(1, 2, 2), 5);
        due("plane", x.plane(), 0);
        duePlane(x, "011001100");
        due("total", x.total(0, 0), 2);
        due("total", x.total(1, 2), 2);
        due("acts", x.count(6), 4);
        x = told("P33 111 111");
        x.go(4);
        x.setTotal(1, 1, 1);
        due("the plane stays", x.plane(), 4);
        refuses("side", side -> told("P33 111 111").setTotal(side, 9, 9), OUTSIDE, -1, 2, LEAST, MOST);
        refuses("row", i -> told("P33 111 111").setTotal(0, i, 9), UNKNOWN, -1, 3, LEAST, MOST);
        refuses("column", i -> told("P33 111 111").setTotal(1, i, 9), UNKNOWN, -1, 3, LEAST, MOST);
        refuses("of a row", v -> told("P23 21 012").setTotal(0, 0, v), OUTSIDE, -1, 4, LEAST, MOST);
        refuses("of a column", v -> told("P23 21 012").setTotal(1, 2, v), OUTSIDE, -1, 3, LEAST, MOST);
        due("edge", told("P23 21 211").setTotal(0, 0, 3), 1);
        due("edge", told("P23 21 011").setTotal(1, 0, 2), 0);
        due("edge", told("P23 31 111").setTotal(0, 1, 0), 1);
        due("edge", told("P23 21 111").setTotal(1, 0, 0), 0);
    }

    private static void settingPins() {
        promise(19);
        TwoViews x = told("P33 111 111");
        x.go(3);
        due("setPin", x.setPin(1, 1), 2);
        duePlane(x, "010 100 001");
        due("plane", x.plane(), 1);
        due("setPin", x.setPin(1, 2), 4);
        due("plane", x.plane(), 0);
        duePlane(x, "001010100");
        due("setPin", x.setPin(1, 0), 6);
        due("plane", x.plane(), 0);
        due("setPin", x.setPin(1, 0), 6);
        due("acts", x.count(6), 5);
        x = told("P44 1111 1111");
        for (int cell = 0; cell < 6; cell++) {
            x.setPin(cell, 2);
        }
        due("pins", x.count(3), 6);
        due("seventh", x.setPin(6, 1), FULL);
        due("acts", x.count(6), 6);
        due("none more", x.setPin(6, 0), x.answers());
        due("another way", x.setPin(5, 1), x.answers());
        due("pin", x.pin(5), 1);
        due("same", x.setPin(5, 1), x.answers());
        due("pins", x.count(3), 6);
        refuses("cell", cell -> told("P33 111 111").setPin(cell, 9), UNKNOWN, -1, 9, LEAST, MOST);
        TwoViews full = x;
        refuses("way", v -> full.setPin(6, v), OUTSIDE, -1, 3, LEAST, MOST);
        due("setPin", x.setPin(5, 0), x.answers());
        due("pins", x.count(3), 5);
        due("sixth", x.setPin(6, 1), x.answers());
        due("pin", x.pin(6), 1);
    }

    private static void undoing() {
        promise(20);
        TwoViews x = told("P33 111 111");
        x.go(4);
        x.setPin(0, 2);
        due("plane", x.plane(), 0);
        due("undo", x.undo(), 1);
        due("the plane as it was", x.plane(), 4);
        due("the pin as it was", x.pin(0), 0);
        due("answers", x.answers(), 6);
        x.setTotal(0, 0, 0);
        due("undo", x.undo(), 1);
        due("total", x.total(0, 0), 1);
        due("the plane as it was", x.plane(), 4);
        x.swap(0, 1, 0, 2);
        due("undo", x.undo(), 1);
        due("the plane as it was", x.plane(), 4);
        due("undo", x.undo(), 0);
        due("plane", x.plane(), 0);
        due("undo", x.undo(), STATE);
        for (int k = 0; k < 20; k++) {
            x.go(k % 6);
        }
        due("acts", x.count(6), 14);
        for (int left = 13; left >= 0; left--) {
            due("undo", x.undo(), left);
            due("plane", x.plane(), (left + 5) % 6);
        }
        due("undo", x.undo(), STATE);
        due("plane", x.plane(), 5);
    }

    private static void switching() {
        promise(21);
        TwoViews x = told("P33 111 111");
        due("switches", x.switches(0), 3);
        due("switches", x.switches(1), 121);
        x = told("P33 111 111 o02");
        due("switches", x.switches(0), 1);
        due("switches", x.switches(1), 1210);
        due("switches", told("P22 22 00").switches(0), 0);
        due("switches", told("P22 22 00").switches(1), NONE);
        due("switches", told("P22 22 21").switches(0), 0);
        due("switches", told("P22 22 21").switches(1), NONE);
        x = told("P24 22 1111");
        due("two for two", x.switches(0), 4);
        due("two for two", x.switches(1), 120);
        refuses("switches", x::switches, OUTSIDE, -1, 2, LEAST, MOST);
        refuses("switches", told("P22 22 21")::switches, OUTSIDE, -1, 2, LEAST, MOST);
    }

    private static void reaching() {
        promise(22);
        due("reached", told("P33 111 111").reached(), 6);
        due("reached", told("P45 2332 22222").reached(), 310);
        due("reached", told("P22 22 22").reached(), 1);
        due("reached", told("P22 22 21").reached(), 0);
        // By three cells that are no, two answers are left that no switch connects.
        TwoViews x = told("P33 111 111 x00x11x22");
        due("answers", x.answers(), 2);
        due("reached", x.reached(), 1);
        x.setPin(0, 0);
        due("reached", x.reached(), 3);
        x.undo();
        due("reached", x.reached(), 1);
    }

    private static void measuring() {
        promise(23);
        TwoViews x = told("P33 111 111");
        due("apart", x.apart(0), STATE);
        x.keep(0);
        due("apart", x.apart(0), 0);
        due("apart", x.apart(1), STATE);
        x.go(1);
        duePlane(x, "001 100 010");
        due("apart", x.apart(0), 1);
        x.go(3);
        due("apart", x.apart(0), 2);
        x.keep(1);
        due("apart", x.apart(1), 0);
        x.setPin(0, 2);
        x.setPin(4, 2);
        x.setPin(8, 2);
        duePlane(x, "001 100 010");
        due("kept plane is no answer", x.apart(0), NONE);
        x = told("P33 111 111 x00x11x22");
        x.keep(0);
        x.go(1);
        due("no switches lead there", x.apart(0), NONE);
        x.setPin(8, 0);
        due("now they do", x.apart(0), 2);
        x.setTotal(0, 0, 0);
        due("no plane here", x.apart(0), NONE);
        x.keep(0);
        due("no plane at all", x.apart(0), NONE);
        x.undo();
        due("no plane there", x.apart(0), NONE);
        refuses("apart", x::apart, UNKNOWN, -1, 2, LEAST, MOST);
    }

    private static void keys() {
        promise(24);
        TwoViews x = told("P22 22 22");
        due("no cells", x.key(0), 0);
        due("no cells", x.key(1), 0);
        x = told("P22 11 11");
        due("one cell", x.key(0), 1);
        due("one cell", x.key(1), 1);
        x = told("P33 111 111");
        due("two cells", x.key(0), 2);
        due("two cells", x.key(1), 105);
        x = told("P33 111 111 x00");
        due("by the plane", x.key(1), 5);
        x.go(1);
        due("by the plane", x.key(1), 8);
        x.go(2);
        due("by the plane", x.key(1), 6);
        x.go(3);
        due("by the plane", x.key(1), 9);
        due("by the plane", x.key(0), 1);
        x = told("P44 1111 1111");
        due("three cells", x.key(0), 3);
        // Row 1 is yes in column 2, row 2 in column 1, and row 0 is not in column 0.
        due("three cells", x.key(1), 10710);
        x = told("P45 3222 23211");
        due("three cells", x.key(1), 10206);
        x = told("P44 2222 2222");
        due("more", x.key(0), NONE);
        due("more", x.key(1), NONE);
        due("no plane", told("P22 22 21").key(0), NONE);
        due("no plane", told("P22 22 21").key(1), NONE);
        refuses("key", x::key, OUTSIDE, -1, 2, LEAST, MOST);
        refuses("key", told("P22 22 21")::key, OUTSIDE, -1, 2, LEAST, MOST);
    }

    private static void judging() {
        promise(25);
        TwoViews x = told("P33 111 111");
        refuses("n", n -> told("P33 111 111").judge(n, 60000), OUTSIDE, -1, 0, 4, LEAST, MOST);
        due("row", x.judge(1, -1), OUTSIDE);
        due("row", x.judge(3, Long.MIN_VALUE), OUTSIDE);
        due("row", x.judge(1, 100000), OUTSIDE);
        due("row", x.judge(2, 10000000000L), OUTSIDE);
        due("row", x.judge(3, 1000000000000000L), OUTSIDE);
        due("row", x.judge(3, Long.MAX_VALUE), OUTSIDE);
        due("row", x.judge(3, 999999999999999L), 0);
        due("highest first", x.judge(2, 60006), 0);
        due("no such kind", x.judge(2, 6000670000L), 1);
        due("no such kind", x.judge(1, 0), 0);

        due("switched", x.judge(1, 10121), NONE);
        due("switched back", x.judge(2, 1012110112L), NONE);
        due("switched twice", x.judge(2, 1012110121L), 1);
        due("no such row", x.judge(1, 10321), 0);
        due("pinned, switched", x.judge(2, 2020110121L), 1);

        due("pinned", x.judge(3, 200016000260003L), 2);
        due("not pinned, no more", x.judge(3, 200012000060006L), NONE);
        due("pinned no", x.judge(3, 200026000460005L), 2);
        due("pinned how", x.judge(1, 20003), 0);
        due("pinned, no 0", x.judge(1, 20011), 0);
        due("no such cell", x.judge(1, 20901), 0);
        due("plane moves", x.judge(3, 200014000140800L), NONE);
        due("plane moves", x.judge(3, 200014000140801L), 2);
        TwoViews full = told("P33 111 111 x00x01x02x10x11x12");
        due("seventh", full.judge(1, 20602), 0);
        due("none more", full.judge(1, 20600), NONE);

        due("total", x.judge(3, 300023100260001L), NONE);
        due("total", x.judge(2, 3000260001L), 1);
        due("no plane", x.judge(2, 3000240000L), 1);
        due("nothing sure", x.judge(2, 3000250000L), 1);
        due("nothing sure", x.judge(2, 3000250001L), 1);
        due("nothing open", x.judge(2, 3000250002L), 1);
        due("no switch", x.judge(2, 3000210121L), 1);
        due("total too great", x.judge(1, 30004), 0);
        due("edge", x.judge(1, 30003), NONE);
        due("no such side", x.judge(1, 32001), 0);
        due("no such column", x.judge(1, 31301), 0);
        due("total, no 0", x.judge(1, 30011), 0);

        due("yes", x.judge(1, 40201), NONE);
        due("no", x.judge(1, 40000), NONE);
        due("not so", x.judge(1, 40001), 0);
        due("neither", x.judge(1, 40002), 0);
        due("no such cell", x.judge(1, 40900), 0);
        due("plane, no 0", x.judge(1, 40010), 0);

        due("open", x.judge(1, 50002), NONE);
        due("not sure", x.judge(1, 50001), 0);
        due("sure", x.judge(2, 2000150001L), NONE);
        due("sure", x.judge(2, 2000150100L), NONE);
        due("neither", x.judge(1, 50003), 0);
        due("no such cell", x.judge(1, 50902), 0);
        due("sure, no 0", x.judge(1, 50012), 0);
        TwoViews wide = told("P45 2332 22222");
        due("two figures", wide.judge(2, 5190251202L), NONE);
        due("two figures", wide.judge(2, 2190251900L), NONE);
        due("two figures", wide.judge(2, 2190251901L), 1);
        due("two figures", wide.judge(2, 2120141201L), NONE);
        due("two figures", wide.judge(2, 2120141200L), 1);

        due("as many", x.judge(1, 60006), NONE);
        due("more", x.judge(1, 60007), 0);
        due("no 0", x.judge(1, 61000), 0);
        due("many", told("P45 2332 22222").judge(1, 60310), NONE);
        due("many", told("P45 2332 22222").judge(1, 60311), 0);

        due("nothing changes", x.count(3) + x.count(6) + x.plane(), 0);
        due("nothing changes", x.answers(), 6);
        due("nothing changes", x.total(0, 0), 1);
    }

    private static void seeing() {
        promise(26);
        TwoViews x = told("P33 111 111");
        refuses("cell", cell -> new TwoViews().see(cell, 0), OUTSIDE, -1, 20, LEAST, MOST);
        refuses("v", v -> new TwoViews().see(0, v), OUTSIDE, -1, 2, LEAST, MOST);
        due("none yet", x.which(0), 6);
        due("none yet", x.which(1), 0);
        due("see", x.see(0, 0), 1);
        due("see", x.see(19, 0), 2);
        promise(28);
        due("which", x.which(0), 4);
        due("which", x.which(1), 0);
        x.see(2, 0);
        due("which", x.which(0), 2);
        due("which", x.which(1), 2);
        x.see(2, 1);
        due("both", x.which(0), 0);
        due("both", x.which(1), NONE);
        refuses("which", x::which, OUTSIDE, -1, 2, LEAST, MOST);
        promise(26);
        due("see", x.see(2, 1), 5);
        due("see", x.see(2, 1), 6);
        due("see", x.see(2, 1), FULL);
        due("see", x.see(20, 1), OUTSIDE);
        promise(27);
        due("unsee", x.unsee(), 6);
        due("unsee", x.unsee(), 0);
        due("which", x.which(0), 6);
        TwoViews wide = told("P45 2332 22222");
        wide.see(19, 0);
        due("which", wide.which(0) < 310 ? 1 : 0, 1);
        wide.unsee();
        due("which", wide.which(0), 310);
        wide.see(19, 1);
        wide.unsee();
        due("which", wide.which(0), 310);
        promise(28);
        x.see(9, 1);
        due("no such cell", x.which(0), 0);
        x.unsee();
        x.see(9, 0);
        due("no such cell", x.which(0), 6);
        due("no answers", told("P22 22 21").which(0), 0);
        due("no answers", told("P22 22 21").which(1), NONE);
    }

    private static void shares() {
        promise(29);
        TwoViews x = told("P33 111 111 x00o02");
        due("share", x.share(0, true), 1);
        due("share", x.share(0, false), 1);
        due("share", x.share(2, true), 3);
        x = told("P33 111 111 o00x01x11");
        // Answers by none 6, o00 2, x01 4, x11 4, o00x01 2, o00x11 1, x01x11 2, all 1: o00 first takes 4
        // (twice), behind x01 2, behind x11 3, last 1 (twice): 15 by six orders.
        due("share", x.share(0, true), 5);
        due("share", x.share(0, false), 2);
        // x01 first takes 2 (twice), behind o00 0, behind x11 2, last 0 (twice).
        due("share", x.share(1, true), 1);
        due("share", x.share(1, false), 1);
        // x11 first takes 2 (twice), behind o00 1, behind x01 2, last 1 (twice).
        due("share", x.share(4, true), 3);
        due("share", x.share(4, false), 2);
        due("share of one", told("P33 111 111 o00").share(0, true), 4);
        due("share of one", told("P33 111 111 o00").share(0, false), 1);
        due("share of none", told("P22 22 22 o00").share(0, true), 0);
        due("share of none", told("P22 22 22 o00").share(0, false), 1);
        for (boolean upper : new boolean[] {true, false}) {
            due("share", x.share(2, upper), STATE);
            due("share", x.share(9, upper), UNKNOWN);
            due("share", x.share(-1, upper), UNKNOWN);
            due("share", x.share(LEAST, upper), UNKNOWN);
        }
    }

    private static void loosening() {
        promise(30);
        TwoViews x = told("P22 11 11 o00");
        due("loose", x.loose(3, true), 7);
        due("loose", x.loose(3, false), 10);
        due("loose", x.loose(0, true), 1);
        due("loose", x.loose(0, false), 1);
        due("loose", x.loose(10, true), 0);
        due("loose", x.loose(10, false), 1);
        x = told("P22 11 11 o00x01");
        due("one of two is enough", x.loose(4, true), 21);
        due("one of two is enough", x.loose(4, false), 25);
        x = told("P22 11 11 o00o01");
        due("both: none is right", x.answers(), 0);
        due("just one of two", x.loose(5, true), 1);
        due("just one of two", x.loose(5, false), 2);
        due("no pins", told("P22 11 11").loose(5, true), 0);
        due("no pins", told("P22 22 22").loose(5, true), 1);
        due("six", told("P45 3322 22222 x00x01o02x10x11o12").loose(1, false) > 0 ? 1 : 0, 1);
        for (boolean upper : new boolean[] {true, false}) {
            for (int tenths : new int[] {-1, 11, LEAST, MOST}) {
                due("loose", x.loose(tenths, upper), OUTSIDE);
            }
        }
    }

    private static void drawing() {
        promise(31);
        TwoViews x = told("P22 11 11");
        due("seed", x.seed(Long.MIN_VALUE), 0);
        due("seed", x.seed(Long.MAX_VALUE), Long.MIN_VALUE);
        due("seed", x.seed(0), Long.MAX_VALUE);
        promise(32);
        due("drawn", x.drawn(1), byHand(1442695040888963407L));
        due("seed", x.seed(0), 1442695040888963407L);
        due("drawn", x.drawn(20) >= 0 ? 1 : 0, 1);
        long after = x.seed(0);
        int together = 0;
        int before = 0;
        for (int m = 1; m <= 20; m++) {
            x.seed(0);
            int sum = x.drawn(m);
            due("one more each time", sum - before == 0 || sum - before == 1 ? 1 : 0, 1);
            together += sum - before;
            before = sum;
        }
        due("seed", x.seed(0), after);
        due("drawn", together, x.drawn(20));
        due("nothing changes", x.plane() + x.count(6), 0);
        dueDrawn("P45 2332 22222", 5);
        dueDrawn("P34 222 1221", -77);
        dueDrawn("P43 1212 222 x31", 123456789012345L);
        refuses("drawn", x::drawn, OUTSIDE, -1, 0, 21, LEAST, MOST);
        due("no plane", told("P22 22 21").drawn(20), 0);
        TwoViews none = told("P22 22 21");
        none.drawn(1);
        due("the seed goes on", none.seed(0), 1442695040888963407L);
    }

    /** Draws one by one, each told by swaps of another object that may or may not be switches. */
    private static void dueDrawn(String text, long seed) {
        TwoViews x = told(text);
        TwoViews walker = told(text);
        int h = x.count(1);
        int w = x.count(2);
        long s = seed;
        int together = 0;
        for (int m = 1; m <= 20; m++) {
            s = s * 6364136223846793005L + 1442695040888963407L;
            int v = (int) (s >>> 33);
            walker.swap(v % h, (v >> 2) % h, (v >> 4) % w, (v >> 7) % w);
            together += walker.plane();
            x.seed(seed);
            due("drawn " + m + " of " + text, x.drawn(m), together);
            due("seed", x.seed(0), s);
        }
        due("nothing changes", x.plane() + x.count(6), 0);
        due("some were switches", walker.count(6) > 0 ? 1 : 0, 1);
    }

    /** What one draw makes of the first answer of two by two: number 1, if it is its switch. */
    private static int byHand(long x) {
        long v = x >>> 33;
        long r = v % 2;
        long s = v / 4 % 2;
        long c = v / 16 % 2;
        long d = v / 128 % 2;
        return r != s && c != d && (r == 0) == (c == 1) ? 1 : 0;
    }

    private static void keeping() {
        promise(33);
        TwoViews x = told("P33 111 111 x00");
        refuses("keep", x::keep, UNKNOWN, -1, 2, LEAST, MOST);
        x.go(2);
        due("keep", x.keep(1), 9);
        due("acts stay", x.count(6), 1);
        promise(34);
        refuses("again", x::again, UNKNOWN, -1, 2, LEAST, MOST);
        due("again", x.again(0), STATE);
        x.setPin(0, 1);
        x.setTotal(1, 1, 0);
        due("again", x.again(1), 9);
        due("plane", x.plane(), 2);
        due("pin", x.pin(0), 2);
        due("total", x.total(1, 1), 1);
        due("answers", x.answers(), 4);
        due("acts", x.count(6), 0);
        due("undo", x.undo(), STATE);
        x.go(0);
        due("still kept", x.again(1), 9);
        due("plane", x.plane(), 2);
        x.setTotal(0, 0, 0);
        due("keep", x.keep(1), 9);
        x.undo();
        due("no plane", x.again(1), 9);
        due("no plane", x.plane(), NONE);
        due("no plane", x.answers(), 0);
    }

    private static void counting() {
        promise(35);
        TwoViews x = told("P34 210 1110 x00o01");
        x.see(1, 1);
        x.see(1, 1);
        x.go(0);
        x.go(0);
        x.go(0);
        int[] want = {16, 3, 4, 2, 3, 0, 3, 2, 3, 3};
        for (int what = 0; what < 10; what++) {
            due("count of " + what, x.count(what), want[what]);
        }
        due("open", told("P33 111 111 x00").count(5), 8);
        due("rows together", told("P33 321 112").count(8), 6);
        due("columns together", told("P33 321 112").count(9), 4);
        due("yes, no plane", told("P33 321 112").count(4), 0);
        due("open, no answers", told("P33 321 112").count(5), 0);
        refuses("count", x::count, OUTSIDE, -1, 10, LEAST, MOST);
    }
}
