import java.math.BigInteger;
import java.util.ArrayDeque;
import java.util.ArrayList;
import java.util.Arrays;
import java.util.HashMap;
import java.util.List;
import java.util.Map;
import java.util.Random;

/**
 * Random runs of calls, each answer compared with a second program that follows the document word
 * by word with lists, maps and arrays of yes and no, and shares no code with the first.
 */
public final class NaiveRuns {
    private static final int RUNS = 2500;
    private static final int CALLS = 512;
    private static final String[] NAMES = {
        "write", "wipe", "fault", "sheet", "total", "pin", "test", "filled", "mended", "answers", "cell", "odds",
        "ask", "plane", "go", "swap", "setTotal", "setPin", "undo", "switches", "reached", "apart", "key", "judge",
        "see", "unsee", "which", "share", "loose", "seed", "drawn", "keep", "again", "count"};

    private static final List<String> RARE = List.of("write", "wipe", "sheet", "setTotal", "again", "unsee");

    private static int wrong = 0;
    private static final Map<String, Integer> good = new HashMap<>();

    public static void main(String[] args) {
        for (int run = 0; run < RUNS && wrong < 20; run++) {
            oneRun(new Random(1000L + run));
        }
        for (String name : NAMES) {
            // A call that was never answered but by refusals would show nothing.
            if (good.getOrDefault(name, 0) < 100) {
                wrong++;
                System.out.println(name + " was answered too seldom: " + good.getOrDefault(name, 0));
            }
        }
        System.out.println(wrong == 0 ? "all answers are as due" : wrong + " answers are not as due");
        if (wrong != 0) {
            System.exit(1);
        }
    }

    private static void oneRun(Random random) {
        TwoViews real = new TwoViews();
        Naive naive = new Naive();
        List<String> calls = new ArrayList<>();
        int left = CALLS;
        boolean dull = random.nextInt(6) == 0;
        while (left > 0) {
            for (long[] call : nextCalls(random, naive, dull)) {
                if (left == 0) {
                    return;
                }
                left--;
                long due = ask(naive, call);
                long got = ask(real, call);
                String told = NAMES[(int) call[0]] + Arrays.toString(Arrays.copyOfRange(call, 1, call.length));
                calls.add(told);
                if (due >= 0) {
                    good.merge(NAMES[(int) call[0]], 1, Integer::sum);
                }
                if (got != due) {
                    wrong++;
                    System.out.println(told + " answered " + got + ", due is " + due + ", after "
                            + calls.subList(Math.max(0, calls.size() - 60), calls.size()));
                    return;
                }
            }
        }
    }

    // ---- which calls

    private static long[][] nextCalls(Random random, Naive naive, boolean dull) {
        if (random.nextInt(naive.now.cells() == 1 ? 10 : naive.answerList().size() < 2 ? 60 : 150) == 0) {
            return tellText(random);
        }
        int name = random.nextInt(NAMES.length);
        // Calls after which there is less to ask come less often.
        for (int i = 0; i < (dull ? 1 : 2) && RARE.contains(NAMES[name]); i++) {
            name = random.nextInt(NAMES.length);
        }
        long[] call = new long[5];
        call[0] = name;
        switch (NAMES[name]) {
            case "write" -> call[1] = random.nextInt(10) == 0 ? random.nextInt(300) - 20 : "Pox012345".charAt(random.nextInt(9));
            case "total" -> { call[1] = near(random, 1); call[2] = near(random, 4); }
            case "pin", "filled" -> call[1] = near(random, naive.now.cells());
            case "mended", "ask", "switches", "key", "which" -> call[1] = near(random, 1);
            case "cell" -> { call[1] = near(random, naive.now.cells()); call[2] = near(random, 2); }
            case "odds", "share" -> { call[1] = cellOrPin(random, naive); call[2] = random.nextInt(2); }
            case "go" -> call[1] = near(random, Math.max(1, naive.answerList().size()));
            case "swap" -> switchOrSo(random, naive, call);
            case "setTotal" -> { call[1] = near(random, 1); call[2] = near(random, 4); call[3] = near(random, 4); }
            case "setPin" -> setPinOrSo(random, naive, call);
            case "apart", "keep", "again" -> call[1] = near(random, 1);
            case "judge" -> judgeOrSo(random, naive, call);
            case "see" -> { call[1] = near(random, random.nextBoolean() ? 19 : naive.now.cells() - 1); call[2] = near(random, 1); }
            case "loose" -> { call[1] = near(random, 10); call[2] = random.nextInt(2); }
            case "seed" -> call[1] = random.nextLong();
            case "drawn" -> call[1] = near(random, 20);
            case "count" -> call[1] = near(random, 9);
            default -> { }
        }
        return new long[][] {call};
    }

    private static int index(String name) {
        return Arrays.asList(NAMES).indexOf(name);
    }

    /** 0 to most, now and then a number beside it, or far from it. */
    private static int near(Random random, int most) {
        int kind = random.nextInt(40);
        if (kind == 0) {
            return random.nextInt();
        }
        return kind == 1 ? -1 - random.nextInt(3) : kind == 2 ? most + 1 : random.nextInt(most + 1);
    }

    private static int cellOrPin(Random random, Naive naive) {
        List<Integer> pins = naive.now.pinCells();
        return pins.isEmpty() || random.nextInt(3) == 0 ? near(random, naive.now.cells()) : pins.get(random.nextInt(pins.size()));
    }

    private static void switchOrSo(Random random, Naive naive, long[] call) {
        List<int[]> all = naive.now.plane == null ? List.of() : naive.now.switchesOf(naive.now.plane);
        if (all.isEmpty() || random.nextInt(4) == 0) {
            call[1] = near(random, naive.now.h - 1);
            call[2] = near(random, naive.now.h - 1);
            call[3] = near(random, naive.now.w - 1);
            call[4] = near(random, naive.now.w - 1);
            return;
        }
        int[] one = all.get(random.nextInt(all.size()));
        boolean turned = random.nextBoolean();
        call[1] = turned ? one[1] : one[0];
        call[2] = turned ? one[0] : one[1];
        call[3] = turned ? one[3] : one[2];
        call[4] = turned ? one[2] : one[3];
    }

    private static void setPinOrSo(Random random, Naive naive, long[] call) {
        call[1] = cellOrPin(random, naive);
        call[2] = near(random, 2);
        if (naive.now.plane != null && random.nextInt(3) != 0) {
            int cell = random.nextInt(naive.now.cells());
            call[1] = cell;
            call[2] = naive.now.plane[cell] ? 1 : 2;
        }
    }

    private static void judgeOrSo(Random random, Naive naive, long[] call) {
        int n = near(random, 2) + 1;
        call[1] = n;
        if (n < 1 || n > 3 || random.nextInt(20) == 0) {
            call[2] = random.nextInt(4) == 0 ? random.nextLong() : (long) Math.pow(10, 5 * random.nextInt(4)) - random.nextInt(2);
            return;
        }
        long row = 0;
        for (int i = 0; i < n; i++) {
            row = row * 100000 + doing(random, naive);
        }
        call[2] = row;
    }

    private static long doing(Random random, Naive naive) {
        int kind = 1 + random.nextInt(6);
        int cell = random.nextInt(naive.now.cells() + (random.nextInt(10) == 0 ? 3 : 0));
        boolean hasPlane = naive.now.plane != null && cell < naive.now.cells();
        int yes = hasPlane && naive.now.plane[cell] ? 1 : 0;
        int slip = random.nextInt(15) == 0 ? 10 * random.nextInt(10) : 0;
        long[] call = new long[5];
        switch (kind) {
            case 1:
                switchOrSo(random, naive, call);
                return 10000 + 1000 * figure(call[1]) + 100 * figure(call[2]) + 10 * figure(call[3]) + figure(call[4]);
            case 2:
                return 20000 + 100 * cell + slip + (random.nextBoolean() ? 2 - yes : random.nextInt(4));
            case 3:
                int side = random.nextInt(20) == 0 ? 2 : random.nextInt(2);
                int i = random.nextInt(5);
                boolean same = random.nextBoolean() && i < (side == 0 ? naive.now.h : naive.now.w);
                int v = same ? (side == 0 ? naive.now.rows[i] : naive.now.columns[i]) : random.nextInt(6);
                return 30000 + 1000 * side + 100 * i + slip + v;
            case 4:
                return 40000 + 100 * cell + slip + (random.nextInt(4) == 0 ? random.nextInt(3) : yes);
            case 5:
                return 50000 + 100 * cell + slip + (random.nextInt(4) == 0 ? random.nextInt(4) : 2);
            default:
                int most = Math.max(1, naive.answerList().size());
                return 60000 + random.nextInt(most + 1) + (random.nextInt(20) == 0 ? 1000 : 0);
        }
    }

    private static long figure(long number) {
        return number < 0 || number > 9 ? 9 : number;
    }

    /** The TOTALS of some plane, some PINS of it; now and then another letter, or one more or less. */
    private static long[][] tellText(Random random) {
        int h = random.nextInt(3) == 0 ? 1 + random.nextInt(4) : 3 + random.nextInt(2);
        int w = random.nextInt(3) == 0 ? 1 + random.nextInt(5) : 4 + random.nextInt(2);
        int most = random.nextInt(3) == 0 ? 1 + random.nextInt(9) : 4 + random.nextInt(3);
        boolean[] plane = new boolean[h * w];
        for (int cell = 0; cell < plane.length; cell++) {
            plane[cell] = random.nextInt(10) < most;
        }
        int[] rows = new int[h];
        int[] columns = new int[w];
        for (int cell = 0; cell < plane.length; cell++) {
            rows[cell / w] += plane[cell] ? 1 : 0;
            columns[cell % w] += plane[cell] ? 1 : 0;
        }
        if (random.nextInt(5) == 0) {
            moveOne(random, random.nextBoolean() ? rows : columns);
        }
        StringBuilder text = new StringBuilder("P").append(h).append(w);
        for (int total : rows) {
            text.append(total);
        }
        for (int total : columns) {
            text.append(total);
        }
        int pins = random.nextInt(4) == 0 ? random.nextInt(9) : random.nextInt(4);
        for (int i = 0; i < pins; i++) {
            int cell = random.nextInt(h * w);
            boolean turned = random.nextInt(30) == 0;
            text.append(plane[cell] != turned ? 'o' : 'x').append(cell / w).append(cell % w);
        }
        if (random.nextInt(4) == 0) {
            int place = random.nextInt(text.length());
            switch (random.nextInt(3)) {
                case 0 -> text.setCharAt(place, "Pox0123456 ".charAt(random.nextInt(11)));
                case 1 -> text.setLength(place);
                default -> text.insert(place, (char) ('0' + random.nextInt(6)));
            }
        }
        List<long[]> calls = new ArrayList<>();
        calls.add(new long[] {index("wipe"), 0, 0, 0, 0});
        for (int i = 0; i < text.length(); i++) {
            calls.add(new long[] {index("write"), text.charAt(i), 0, 0, 0});
        }
        calls.add(new long[] {index("fault"), 0, 0, 0, 0});
        calls.add(new long[] {index("sheet"), 0, 0, 0, 0});
        return calls.toArray(new long[0][]);
    }

    /** Two TOTALS that together are as many as before, so that THE TEST can fail behind its first step. */
    private static void moveOne(Random random, int[] totals) {
        int from = random.nextInt(totals.length);
        int to = random.nextInt(totals.length);
        int most = Math.min(totals[from], (totals.length == 4 ? 5 : 4) - totals[to]);
        int moved = most <= 0 ? 0 : 1 + random.nextInt(most);
        totals[from] -= moved;
        totals[to] += moved;
    }

    private static long ask(TwoViews x, long[] call) {
        int a = (int) call[1];
        int b = (int) call[2];
        int c = (int) call[3];
        int d = (int) call[4];
        return switch (NAMES[(int) call[0]]) {
            case "write" -> x.write(a);
            case "wipe" -> x.wipe();
            case "fault" -> x.fault();
            case "sheet" -> x.sheet();
            case "total" -> x.total(a, b);
            case "pin" -> x.pin(a);
            case "test" -> x.test();
            case "filled" -> x.filled(a);
            case "mended" -> x.mended(a);
            case "answers" -> x.answers();
            case "cell" -> x.cell(a, b);
            case "odds" -> x.odds(a, b == 1);
            case "ask" -> x.ask(a);
            case "plane" -> x.plane();
            case "go" -> x.go(a);
            case "swap" -> x.swap(a, b, c, d);
            case "setTotal" -> x.setTotal(a, b, c);
            case "setPin" -> x.setPin(a, b);
            case "undo" -> x.undo();
            case "switches" -> x.switches(a);
            case "reached" -> x.reached();
            case "apart" -> x.apart(a);
            case "key" -> x.key(a);
            case "judge" -> x.judge(a, call[2]);
            case "see" -> x.see(a, b);
            case "unsee" -> x.unsee();
            case "which" -> x.which(a);
            case "share" -> x.share(a, b == 1);
            case "loose" -> x.loose(a, b == 1);
            case "seed" -> x.seed(call[1]);
            case "drawn" -> x.drawn(a);
            case "keep" -> x.keep(a);
            case "again" -> x.again(a);
            default -> x.count(a);
        };
    }

    private static long ask(Naive x, long[] call) {
        int a = (int) call[1];
        int b = (int) call[2];
        int c = (int) call[3];
        int d = (int) call[4];
        return switch (NAMES[(int) call[0]]) {
            case "write" -> x.write(a);
            case "wipe" -> x.wipe();
            case "fault" -> x.fault();
            case "sheet" -> x.sheet();
            case "total" -> x.total(a, b);
            case "pin" -> x.now.hasCell(a) ? x.now.pins[a] : -1;
            case "test" -> Naive.test(x.now.rows, x.now.columns);
            case "filled" -> x.filled(a);
            case "mended" -> x.mended(a);
            case "answers" -> x.answerList().size();
            case "cell" -> x.cell(a, b);
            case "odds" -> x.odds(a, b == 1);
            case "ask" -> x.ask(a);
            case "plane" -> x.number(x.now.plane);
            case "go" -> x.go(a);
            case "swap" -> x.swap(a, b, c, d);
            case "setTotal" -> x.setTotal(a, b, c);
            case "setPin" -> x.setPin(a, b);
            case "undo" -> x.undo();
            case "switches" -> x.switches(a);
            case "reached" -> x.now.plane == null ? 0 : x.distances().size();
            case "apart" -> x.apart(a);
            case "key" -> x.key(a);
            case "judge" -> x.judge(a, call[2]);
            case "see" -> x.see(a, b);
            case "unsee" -> x.unsee();
            case "which" -> x.which(a);
            case "share" -> x.share(a, b == 1);
            case "loose" -> x.loose(a, b == 1);
            case "seed" -> x.seed(call[1]);
            case "drawn" -> x.drawn(a);
            case "keep" -> x.keep(a);
            case "again" -> x.again(a);
            default -> x.count(a);
        };
    }

    // ---- the second program

    private static final class Paper {
        int h = 1;
        int w = 1;
        int[] rows = {0};
        int[] columns = {0};
        int[] pins = {0};
        boolean[] plane = {false};

        Paper copy() {
            Paper other = new Paper();
            other.h = h;
            other.w = w;
            other.rows = rows.clone();
            other.columns = columns.clone();
            other.pins = pins.clone();
            other.plane = plane == null ? null : plane.clone();
            return other;
        }

        int cells() {
            return h * w;
        }

        boolean hasCell(int cell) {
            return cell >= 0 && cell < cells();
        }

        List<Integer> pinCells() {
            List<Integer> found = new ArrayList<>();
            for (int cell = 0; cell < cells(); cell++) {
                if (pins[cell] != 0) {
                    found.add(cell);
                }
            }
            return found;
        }

        List<boolean[]> list(int[] somePins) {
            List<boolean[]> found = new ArrayList<>();
            tryCell(new boolean[cells()], 0, new int[h], new int[w], somePins, found);
            return found;
        }

        private void tryCell(boolean[] made, int cell, int[] inRow, int[] inColumn, int[] somePins, List<boolean[]> found) {
            if (cell == cells()) {
                if (Arrays.equals(inColumn, columns) && Arrays.equals(inRow, rows)) {
                    found.add(made.clone());
                }
                return;
            }
            int r = cell / w;
            int c = cell % w;
            if (c == 0 && r > 0 && inRow[r - 1] != rows[r - 1]) {
                return;
            }
            if (somePins[cell] != 1) {
                tryCell(made, cell + 1, inRow, inColumn, somePins, found);
            }
            if (somePins[cell] != 2 && inRow[r] < rows[r] && inColumn[c] < columns[c]) {
                made[cell] = true;
                inRow[r]++;
                inColumn[c]++;
                tryCell(made, cell + 1, inRow, inColumn, somePins, found);
                made[cell] = false;
                inRow[r]--;
                inColumn[c]--;
            }
        }

        boolean isSwitch(boolean[] some, int r, int s, int c, int d) {
            int[] four = {r * w + c, s * w + d, r * w + d, s * w + c};
            for (int cell : four) {
                if (pins[cell] != 0) {
                    return false;
                }
            }
            return some[four[0]] && some[four[1]] && !some[four[2]] && !some[four[3]];
        }

        boolean[] switched(boolean[] some, int r, int s, int c, int d) {
            boolean[] other = some.clone();
            other[r * w + c] = false;
            other[s * w + d] = false;
            other[r * w + d] = true;
            other[s * w + c] = true;
            return other;
        }

        List<int[]> switchesOf(boolean[] some) {
            List<int[]> found = new ArrayList<>();
            for (int r = 0; r < h; r++) {
                for (int s = r + 1; s < h; s++) {
                    for (int c = 0; c < w; c++) {
                        for (int d = 0; d < w; d++) {
                            if (isSwitch(some, r, s, c, d)) {
                                found.add(new int[] {r, s, c, d});
                            }
                        }
                    }
                }
            }
            return found;
        }
    }

    private static final class Naive {
        Paper now = new Paper();
        String text = "";
        final ArrayDeque<Paper> acts = new ArrayDeque<>();
        final Paper[] slots = new Paper[2];
        final List<int[]> seen = new ArrayList<>();
        long seed = 0;
        private List<boolean[]> listed;
        private String listedFor = "";

        List<boolean[]> answerList() {
            String state = now.h + " " + now.w + Arrays.toString(now.rows) + Arrays.toString(now.columns) + Arrays.toString(now.pins);
            if (!state.equals(listedFor)) {
                listed = now.list(now.pins);
                listedFor = state;
            }
            return listed;
        }

        int number(boolean[] plane) {
            List<boolean[]> all = answerList();
            for (int k = 0; k < all.size(); k++) {
                if (Arrays.equals(all.get(k), plane)) {
                    return k;
                }
            }
            return -9;
        }

        int write(int letter) {
            if (letter < 0 || letter > 255) {
                return -2;
            }
            if (text.length() == 40) {
                return -4;
            }
            text += (char) letter;
            return text.length();
        }

        int wipe() {
            int length = text.length();
            text = "";
            return length;
        }

        /** The least prefix that no SHEET begins with ends in the fault. */
        int fault() {
            for (int length = 1; length <= text.length(); length++) {
                if (!canBegin(text.substring(0, length))) {
                    return length - 1;
                }
            }
            return text.matches("P..") || text.length() < 5 || !isWhole(text) ? text.length() : -9;
        }

        private boolean isWhole(String some) {
            int totals = 3 + (some.charAt(1) - '0') + (some.charAt(2) - '0');
            return some.length() >= totals && (some.length() - totals) % 3 == 0;
        }

        private boolean canBegin(String some) {
            if (some.charAt(0) != 'P') {
                return false;
            }
            if (some.length() > 1 && "1234".indexOf(some.charAt(1)) < 0) {
                return false;
            }
            if (some.length() > 2 && "12345".indexOf(some.charAt(2)) < 0) {
                return false;
            }
            if (some.length() < 3) {
                return true;
            }
            int h = some.charAt(1) - '0';
            int w = some.charAt(2) - '0';
            for (int i = 3; i < Math.min(some.length(), 3 + h + w); i++) {
                if (some.charAt(i) < '0' || some.charAt(i) > '0' + (i < 3 + h ? w : h)) {
                    return false;
                }
            }
            boolean[][] taken = new boolean[h][w];
            int pins = 0;
            for (int i = 3 + h + w; i < some.length(); i += 3) {
                String one = some.substring(i, Math.min(i + 3, some.length()));
                if ("ox".indexOf(one.charAt(0)) < 0 || pins == 6 || pins == h * w) {
                    return false;
                }
                if (one.length() > 1) {
                    int r = one.charAt(1) - '0';
                    if (r < 0 || r >= h || !hasFree(taken[r])) {
                        return false;
                    }
                    if (one.length() > 2) {
                        int c = one.charAt(2) - '0';
                        if (c < 0 || c >= w || taken[r][c]) {
                            return false;
                        }
                        taken[r][c] = true;
                        pins++;
                    }
                }
            }
            return true;
        }

        private static boolean hasFree(boolean[] row) {
            for (boolean taken : row) {
                if (!taken) {
                    return true;
                }
            }
            return false;
        }

        int sheet() {
            if (fault() != -9) {
                return -3;
            }
            Paper told = new Paper();
            told.h = text.charAt(1) - '0';
            told.w = text.charAt(2) - '0';
            told.rows = new int[told.h];
            told.columns = new int[told.w];
            told.pins = new int[told.cells()];
            for (int r = 0; r < told.h; r++) {
                told.rows[r] = text.charAt(3 + r) - '0';
            }
            for (int c = 0; c < told.w; c++) {
                told.columns[c] = text.charAt(3 + told.h + c) - '0';
            }
            for (int i = 3 + told.h + told.w; i < text.length(); i += 3) {
                int cell = (text.charAt(i + 1) - '0') * told.w + text.charAt(i + 2) - '0';
                told.pins[cell] = text.charAt(i) == 'o' ? 1 : 2;
            }
            now = told;
            now.plane = answerList().isEmpty() ? null : answerList().get(0);
            acts.clear();
            slots[0] = null;
            slots[1] = null;
            return answerList().size();
        }

        int total(int side, int i) {
            if (side != 0 && side != 1) {
                return -2;
            }
            int[] totals = side == 0 ? now.rows : now.columns;
            return i < 0 || i >= totals.length ? -1 : totals[i];
        }

        static int test(int[] rows, int[] columns) {
            if (Arrays.stream(rows).sum() != Arrays.stream(columns).sum()) {
                return 0;
            }
            int[] sorted = rows.clone();
            Arrays.sort(sorted);
            for (int k = 1; k <= rows.length; k++) {
                int upTo = k;
                int greatest = Arrays.stream(sorted, sorted.length - k, sorted.length).sum();
                if (greatest > Arrays.stream(columns).map(t -> Math.min(t, upTo)).sum()) {
                    return k;
                }
            }
            return -9;
        }

        int filled(int cell) {
            if (!now.hasCell(cell)) {
                return -1;
            }
            if (test(now.rows, now.columns) != -9) {
                return -3;
            }
            List<Integer> order = new ArrayList<>();
            for (int r = 0; r < now.h; r++) {
                order.add(r);
            }
            order.sort((a, b) -> now.rows[b] - now.rows[a]);
            boolean[] made = new boolean[now.cells()];
            int[] lack = now.columns.clone();
            for (int r : order) {
                List<Integer> byLack = new ArrayList<>();
                for (int c = 0; c < now.w; c++) {
                    byLack.add(c);
                }
                int[] then = lack.clone();
                byLack.sort((a, b) -> then[b] - then[a]);
                for (int c : byLack.subList(0, now.rows[r])) {
                    made[r * now.w + c] = true;
                    lack[c]--;
                }
            }
            return made[cell] ? 1 : 0;
        }

        int mended(int what) {
            if (what != 0 && what != 1) {
                return -2;
            }
            List<Integer> found = new ArrayList<>();
            for (int side = 0; side < 2 && test(now.rows, now.columns) != -9; side++) {
                int totals = side == 0 ? now.h : now.w;
                for (int i = 0; i < totals; i++) {
                    for (int v = 0; v <= (side == 0 ? now.w : now.h); v++) {
                        Paper other = now.copy();
                        (side == 0 ? other.rows : other.columns)[i] = v;
                        if (test(other.rows, other.columns) == -9) {
                            found.add(100 * side + 10 * i + v);
                        }
                    }
                }
            }
            return what == 0 ? found.size() : found.stream().min(Integer::compare).orElse(-9);
        }

        private int yes(int cell) {
            int yes = 0;
            for (boolean[] one : answerList()) {
                yes += one[cell] ? 1 : 0;
            }
            return yes;
        }

        private int sure(int cell) {
            if (answerList().isEmpty()) {
                return -9;
            }
            int yes = yes(cell);
            return yes == 0 ? 0 : yes == answerList().size() ? 1 : 2;
        }

        int cell(int cell, int what) {
            if (!now.hasCell(cell)) {
                return -1;
            }
            return switch (what) {
                case 0 -> now.plane == null ? -9 : now.plane[cell] ? 1 : 0;
                case 1 -> sure(cell);
                case 2 -> yes(cell);
                default -> -2;
            };
        }

        private static int fraction(long above, long below, boolean upper) {
            long g = BigInteger.valueOf(above).gcd(BigInteger.valueOf(below)).longValueExact();
            return Math.toIntExact(upper ? above / g : below / g);
        }

        int odds(int cell, boolean upper) {
            if (!now.hasCell(cell)) {
                return -1;
            }
            return answerList().isEmpty() ? -3 : fraction(yes(cell), answerList().size(), upper);
        }

        int ask(int what) {
            if (what != 0 && what != 1) {
                return -2;
            }
            int best = -9;
            int least = -9;
            for (int cell = now.cells() - 1; cell >= 0; cell--) {
                int greater = Math.max(yes(cell), answerList().size() - yes(cell));
                if (sure(cell) == 2 && (best == -9 || greater <= least)) {
                    best = cell;
                    least = greater;
                }
            }
            return what == 0 ? best : least;
        }

        private void act() {
            acts.addLast(now.copy());
            if (acts.size() > 14) {
                acts.removeFirst();
            }
        }

        int go(int k) {
            if (k < 0 || k >= answerList().size()) {
                return -1;
            }
            act();
            int otherwise = 0;
            for (int cell = 0; cell < now.cells(); cell++) {
                otherwise += now.plane[cell] != answerList().get(k)[cell] ? 1 : 0;
            }
            now.plane = answerList().get(k);
            return otherwise;
        }

        int swap(int r, int s, int c, int d) {
            if (Math.min(r, s) < 0 || Math.max(r, s) >= now.h || Math.min(c, d) < 0 || Math.max(c, d) >= now.w) {
                return -1;
            }
            if (now.plane == null || !now.isSwitch(now.plane, r, s, c, d)) {
                return -3;
            }
            act();
            now.plane = now.switched(now.plane, r, s, c, d);
            return now.switchesOf(now.plane).size();
        }

        private int settled() {
            if (now.plane == null || number(now.plane) == -9) {
                now.plane = answerList().isEmpty() ? null : answerList().get(0);
            }
            return answerList().size();
        }

        int setTotal(int side, int i, int v) {
            if (side != 0 && side != 1) {
                return -2;
            }
            if (i < 0 || i >= (side == 0 ? now.h : now.w)) {
                return -1;
            }
            if (v < 0 || v > (side == 0 ? now.w : now.h)) {
                return -2;
            }
            act();
            (side == 0 ? now.rows : now.columns)[i] = v;
            return settled();
        }

        int setPin(int cell, int v) {
            if (!now.hasCell(cell)) {
                return -1;
            }
            if (v != 0 && v != 1 && v != 2) {
                return -2;
            }
            if (v != 0 && now.pins[cell] == 0 && now.pinCells().size() == 6) {
                return -4;
            }
            act();
            now.pins[cell] = v;
            return settled();
        }

        int undo() {
            if (acts.isEmpty()) {
                return -3;
            }
            now = acts.removeLast();
            return acts.size();
        }

        int switches(int what) {
            if (what != 0 && what != 1) {
                return -2;
            }
            List<int[]> all = now.plane == null ? List.of() : now.switchesOf(now.plane);
            int least = -9;
            for (int[] one : all) {
                int told = 1000 * one[0] + 100 * one[1] + 10 * one[2] + one[3];
                least = least == -9 ? told : Math.min(least, told);
            }
            return what == 0 ? all.size() : least;
        }

        Map<String, Integer> distances() {
            Map<String, Integer> far = new HashMap<>();
            ArrayDeque<boolean[]> queue = new ArrayDeque<>();
            queue.add(now.plane);
            far.put(Arrays.toString(now.plane), 0);
            while (!queue.isEmpty()) {
                boolean[] one = queue.remove();
                int steps = far.get(Arrays.toString(one));
                for (int[] four : now.switchesOf(one)) {
                    boolean[] next = now.switched(one, four[0], four[1], four[2], four[3]);
                    if (far.putIfAbsent(Arrays.toString(next), steps + 1) == null) {
                        queue.add(next);
                    }
                }
            }
            return far;
        }

        int apart(int slot) {
            if (slot != 0 && slot != 1) {
                return -1;
            }
            if (slots[slot] == null) {
                return -3;
            }
            Paper kept = slots[slot];
            if (kept.plane == null || now.plane == null || kept.h != now.h || kept.w != now.w) {
                return -9;
            }
            return distances().getOrDefault(Arrays.toString(kept.plane), -9);
        }

        private boolean isKey(int... cells) {
            int alike = 0;
            for (boolean[] one : answerList()) {
                boolean same = true;
                for (int cell : cells) {
                    same = same && one[cell] == now.plane[cell];
                }
                alike += same ? 1 : 0;
            }
            return alike == 1;
        }

        int key(int what) {
            if (what != 0 && what != 1) {
                return -2;
            }
            if (now.plane == null) {
                return -9;
            }
            if (isKey()) {
                return 0;
            }
            for (int a = 0; a < now.cells(); a++) {
                if (isKey(a)) {
                    return what == 0 ? 1 : a + 1;
                }
            }
            for (int a = 0; a < now.cells(); a++) {
                for (int b = a + 1; b < now.cells(); b++) {
                    if (isKey(a, b)) {
                        return what == 0 ? 2 : 100 * (a + 1) + b + 1;
                    }
                }
            }
            for (int a = 0; a < now.cells(); a++) {
                for (int b = a + 1; b < now.cells(); b++) {
                    for (int c = b + 1; c < now.cells(); c++) {
                        if (isKey(a, b, c)) {
                            return what == 0 ? 3 : 10000 * (a + 1) + 100 * (b + 1) + c + 1;
                        }
                    }
                }
            }
            return -9;
        }

        int judge(int n, long row) {
            if (n < 1 || n > 3 || row < 0) {
                return -2;
            }
            String figures = Long.toString(row);
            if (figures.length() > 5 * n) {
                return -2;
            }
            figures = "0".repeat(5 * n - figures.length()) + figures;
            Naive other = new Naive();
            other.now = now.copy();
            for (int i = 0; i < n; i++) {
                if (!other.does(figures.substring(5 * i, 5 * i + 5))) {
                    return i;
                }
            }
            return -9;
        }

        private boolean does(String doing) {
            int a = doing.charAt(1) - '0';
            int b = doing.charAt(2) - '0';
            int c = doing.charAt(3) - '0';
            int v = doing.charAt(4) - '0';
            int cell = 10 * a + b;
            return switch (doing.charAt(0)) {
                case '1' -> swap(a, b, c, v) >= 0;
                case '2' -> c == 0 && setPin(cell, v) >= 0;
                case '3' -> c == 0 && setTotal(a, b, v) >= 0;
                case '4' -> c == 0 && now.hasCell(cell) && cell(cell, 0) == v;
                case '5' -> c == 0 && now.hasCell(cell) && cell(cell, 1) == v;
                case '6' -> a == 0 && answerList().size() >= Integer.parseInt(doing.substring(2));
                default -> false;
            };
        }

        int see(int cell, int v) {
            if (cell < 0 || cell > 19 || v < 0 || v > 1) {
                return -2;
            }
            if (seen.size() == 6) {
                return -4;
            }
            seen.add(new int[] {cell, v});
            return seen.size();
        }

        int unsee() {
            int before = seen.size();
            seen.clear();
            return before;
        }

        int which(int what) {
            if (what != 0 && what != 1) {
                return -2;
            }
            List<Integer> found = new ArrayList<>();
            for (int k = 0; k < answerList().size(); k++) {
                boolean so = true;
                for (int[] one : seen) {
                    int was = one[0] < now.cells() && answerList().get(k)[one[0]] ? 1 : 0;
                    so = so && was == one[1];
                }
                if (so) {
                    found.add(k);
                }
            }
            return what == 0 ? found.size() : found.isEmpty() ? -9 : found.get(0);
        }

        private int answersWith(List<Integer> cells, Map<List<Integer>, Integer> known) {
            List<Integer> sorted = cells.stream().sorted().toList();
            return known.computeIfAbsent(sorted, some -> {
                int[] pins = new int[now.cells()];
                for (int cell : some) {
                    pins[cell] = now.pins[cell];
                }
                return now.list(pins).size();
            });
        }

        private long orders = 0;
        private long fewer = 0;

        int share(int cell, boolean upper) {
            if (!now.hasCell(cell)) {
                return -1;
            }
            if (now.pins[cell] == 0) {
                return -3;
            }
            orders = 0;
            fewer = 0;
            inEachOrder(new ArrayList<>(), now.pinCells(), cell, new HashMap<>());
            return fraction(fewer, orders, upper);
        }

        private void inEachOrder(List<Integer> come, List<Integer> pins, int cell, Map<List<Integer>, Integer> known) {
            if (come.size() == pins.size()) {
                int place = come.indexOf(cell);
                orders++;
                fewer += answersWith(come.subList(0, place), known) - answersWith(come.subList(0, place + 1), known);
                return;
            }
            for (int next : pins) {
                if (!come.contains(next)) {
                    come.add(next);
                    inEachOrder(come, pins, cell, known);
                    come.remove(come.size() - 1);
                }
            }
        }

        int loose(int x, boolean upper) {
            if (x < 0 || x > 10) {
                return -2;
            }
            return fraction(chances(x, 0, new ArrayList<>(), new HashMap<>()), (long) Math.pow(10, now.pinCells().size()), upper);
        }

        private long chances(int x, int i, List<Integer> stay, Map<List<Integer>, Integer> known) {
            List<Integer> pins = now.pinCells();
            if (i == pins.size()) {
                return answersWith(stay, known) == 1 ? 1 : 0;
            }
            long off = x * chances(x, i + 1, stay, known);
            stay.add(pins.get(i));
            long on = (10 - x) * chances(x, i + 1, stay, known);
            stay.remove(stay.size() - 1);
            return off + on;
        }

        long seed(long v) {
            long before = seed;
            seed = v;
            return before;
        }

        int drawn(int m) {
            if (m < 1 || m > 20) {
                return -2;
            }
            boolean[] plane = now.plane;
            int together = 0;
            for (int i = 0; i < m; i++) {
                BigInteger next = BigInteger.valueOf(seed).multiply(new BigInteger("6364136223846793005")).add(new BigInteger("1442695040888963407"));
                seed = next.longValue();
                long v = next.mod(BigInteger.TWO.pow(64)).shiftRight(33).longValueExact();
                int r = (int) (v % now.h);
                int s = (int) (v / 4 % now.h);
                int c = (int) (v / 16 % now.w);
                int d = (int) (v / 128 % now.w);
                if (plane != null && now.isSwitch(plane, r, s, c, d)) {
                    plane = now.switched(plane, r, s, c, d);
                }
                together += plane == null ? 0 : number(plane);
            }
            return together;
        }

        int keep(int slot) {
            if (slot != 0 && slot != 1) {
                return -1;
            }
            slots[slot] = now.copy();
            return now.cells();
        }

        int again(int slot) {
            if (slot != 0 && slot != 1) {
                return -1;
            }
            if (slots[slot] == null) {
                return -3;
            }
            now = slots[slot].copy();
            acts.clear();
            return now.cells();
        }

        int count(int what) {
            int open = 0;
            int yes = 0;
            for (int cell = 0; cell < now.cells(); cell++) {
                open += sure(cell) == 2 ? 1 : 0;
                yes += now.plane != null && now.plane[cell] ? 1 : 0;
            }
            return switch (what) {
                case 0 -> text.length();
                case 1 -> now.h;
                case 2 -> now.w;
                case 3 -> now.pinCells().size();
                case 4 -> yes;
                case 5 -> open;
                case 6 -> acts.size();
                case 7 -> seen.size();
                case 8 -> Arrays.stream(now.rows).sum();
                case 9 -> Arrays.stream(now.columns).sum();
                default -> -2;
            };
        }
    }
}
