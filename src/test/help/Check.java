import java.util.ArrayList;
import java.util.List;

/** What the tests of sentences share: the words that are quoted, objects to ask, answers that are due. */
final class Check {
    static final int UNKNOWN = -1, OUTSIDE = -2, STATE = -3, FULL = -4, NONE = -9;
    static final int LEAST = Integer.MIN_VALUE, MOST = Integer.MAX_VALUE;

    private static final Document DOCUMENT = new Document();
    private static int wrong = 0;
    private static int answers = 0;
    private static String place = "";
    private static String words = "";
    private static int answersBefore = 0;

    private Check() {
    }

    interface Asked {
        long of(int number);
    }

    interface Doing {
        long to(TwoViews x);
    }

    // ---- words

    /** From here on, what is due is due by these words. */
    static void words(String somePlace, String someWords) {
        endOfWords();
        place = somePlace;
        words = someWords;
        if (!DOCUMENT.quote(place, words)) {
            wrong("these words are not in the document");
        }
    }

    /** From here on, what is due is due by a place of the document, no words of it quoted. */
    static void at(String somePlace) {
        endOfWords();
        place = somePlace;
        words = "";
    }

    private static void endOfWords() {
        if (!words.isEmpty() && answers == answersBefore) {
            wrong("nothing is asked about these words");
        }
        answersBefore = answers;
    }

    /** No words may be left over of so many places whose names begin so. */
    static void dueAllQuoted(String places, int howMany) {
        at(places);
        due("places", DOCUMENT.places(places), howMany);
        for (String left : DOCUMENT.notQuoted(places)) {
            wrong("words without a test: " + left);
        }
    }

    static void end() {
        endOfWords();
        System.out.println(wrong == 0 ? answers + " answers are as due" : wrong + " answers are not as due");
        if (wrong != 0) {
            System.exit(1);
        }
    }

    private static void wrong(String what) {
        wrong++;
        System.out.println(place + (words.isEmpty() ? "" : " '" + words + "'") + ": " + what);
    }

    // ---- what is due

    static void due(String call, long got, long want) {
        answers++;
        if (got != want) {
            wrong(call + " answered " + got + ", due is " + want);
        }
    }

    static void due(String call, String got, String want) {
        answers++;
        if (!got.equals(want)) {
            wrong(call + " is " + got + ", due is " + want);
        }
    }

    static void dueAlike(String call, Asked asked, long want, int... numbers) {
        for (int number : numbers) {
            due(call + " by " + number, asked.of(number), want);
        }
    }

    /** Asks numbers that are too small or too large: just beside the edges, and far from them. */
    static void dueBeside(String call, Asked asked, long want, int least, int most) {
        dueAlike(call, asked, want, least - 1, most + 1, LEAST, MOST);
    }

    static void dueFraction(String call, int above, int below, int wantAbove, int wantBelow) {
        due(call + ", above", above, wantAbove);
        due(call + ", below", below, wantBelow);
    }

    static void duePlane(TwoViews x, String want) {
        dueCells("the plane", planeOf(x), want);
    }

    static void dueCells(String what, String got, String want) {
        due(what, got, want.replace(" ", ""));
    }

    static void dueFault(String text, int want) {
        TwoViews x = new TwoViews();
        tell(x, text);
        due("fault of '" + text + "'", x.fault(), want);
    }

    // ---- objects to ask

    static TwoViews told(String text) {
        TwoViews x = new TwoViews();
        tell(x, text);
        if (x.sheet() < 0) {
            wrong("'" + text + "' is no sheet");
        }
        return x;
    }

    /** Writes a text; blanks in it only part it for the eye. */
    static void tell(TwoViews x, String text) {
        x.wipe();
        for (char letter : text.replace(" ", "").toCharArray()) {
            x.write(letter);
        }
    }

    static String planeOf(TwoViews x) {
        StringBuilder cells = new StringBuilder();
        int most = x.count(1) * x.count(2);
        for (int cell = 0; cell < most; cell++) {
            cells.append(x.cell(cell, 0));
        }
        return cells.toString();
    }

    static String filledOf(TwoViews x) {
        StringBuilder cells = new StringBuilder();
        int most = x.count(1) * x.count(2);
        for (int cell = 0; cell < most; cell++) {
            cells.append(x.filled(cell));
        }
        return cells.toString();
    }

    // ---- what changes nothing

    /** Does the same to two objects, and a call more to one: all that can be told of them stays alike. */
    static void dueUnchanged(String call, Doing history, Doing more, boolean seedToo) {
        TwoViews one = new TwoViews();
        TwoViews other = new TwoViews();
        history.to(one);
        history.to(other);
        more.to(one);
        due("after " + call + " all", unravelled(one, seedToo), unravelled(other, seedToo));
    }

    static void dueRefused(String call, Doing history, Doing more, long want) {
        TwoViews x = new TwoViews();
        history.to(x);
        due(call, more.to(x), want);
        dueUnchanged(call, history, more, true);
    }

    /** All that can be asked of an object, taken apart on the way: its acts, its slots, its text. */
    private static String unravelled(TwoViews x, boolean seedToo) {
        List<Long> told = new ArrayList<>();
        told.add((long) x.fault());
        told.add(seedToo ? x.seed(0) : 0L);
        addSheet(x, told);
        for (int left = x.undo(); left >= 0; left = x.undo()) {
            addSheet(x, told);
        }
        for (int slot = 0; slot < 2; slot++) {
            told.add((long) x.again(slot));
            addSheet(x, told);
        }
        told.add((long) x.sheet());
        addSheet(x, told);
        for (int letter : new int[] {'o', '0', '0'}) {
            told.add((long) x.write(letter));
            told.add((long) x.fault());
        }
        return told.toString();
    }

    private static void addSheet(TwoViews x, List<Long> told) {
        for (int what = 0; what < 10; what++) {
            told.add((long) x.count(what));
        }
        int h = x.count(1);
        int w = x.count(2);
        for (int i = 0; i < h; i++) {
            told.add((long) x.total(0, i));
        }
        for (int i = 0; i < w; i++) {
            told.add((long) x.total(1, i));
        }
        for (int cell = 0; cell < h * w; cell++) {
            told.add((long) x.pin(cell));
        }
        told.add((long) x.answers());
        told.add((long) x.plane());
        told.add((long) x.which(0));
        told.add((long) x.which(1));
        told.add((long) x.reached());
        told.add((long) x.apart(0));
        told.add((long) x.apart(1));
    }
}
