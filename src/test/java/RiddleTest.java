import java.util.ArrayList;
import java.util.Arrays;
import java.util.HashMap;
import java.util.List;
import java.util.Map;
import java.util.Random;
import java.util.TreeSet;

/** Promises 21, 22 and 25 to 40: thoughts about what is told for them, against trying all ways out. */
public final class RiddleTest {
    private static final Check check = new Check("RiddleTest");
    private static final int NONE = StairRegiment.NONE;
    private static final Random random = new Random(11);

    public static void main(String[] args) {
        signers();
        drills();
        betweens();
        spirals();
        missings();
        runners();
        ramps();
        boxes();
        cellars();
        games();
        check.finish();
    }

    // ---- BLIND

    private static int[] shuffled(int n) {
        List<Integer> all = new ArrayList<>();
        for (int i = 0; i < n; i++) {
            all.add(i);
        }
        java.util.Collections.shuffle(all, random);
        int[] row = new int[n];
        for (int i = 0; i < n; i++) {
            row[i] = all.get(i);
        }
        return row;
    }

    private static int number(int[] row) {
        int n = 0;
        for (int d : row) {
            n = n * 10 + d;
        }
        return n;
    }

    private static void signers() {
        StairRegiment x = new StairRegiment();
        int[] wrongs = {-2, 0, 11, 124, 122, 3333, 4321, 12345, 10123, 1023456, Integer.MIN_VALUE, Integer.MAX_VALUE, 321 + 10000};
        for (int w : wrongs) {
            check.due("signer(" + w + ")", x.signer(w), NONE);
        }
        for (int round = 0; round < 300; round++) {
            check.due("none is then", x.signer(NONE), 0);
            check.due("wins of none", x.signs(0), NONE);
            check.due("top of none", x.signs(1), 15);
            check.due("signs of none", x.signs(2), 0);
            int n = 1 + random.nextInt(7);
            int[][] rows = new int[n][];
            for (int i = 0; i < n; i++) {
                rows[i] = random.nextInt(3) == 0 && i > 0 ? rows[i - 1] : shuffled(4);
                check.due("signer", x.signer(number(rows[i])), i + 1);
            }
            checkSigns(x, rows);
            if (n == 7) {
                check.due("eighth", x.signer(123), NONE);
            }
        }
        check.due("signs(3)", x.signs(3), NONE);
        check.due("signs(-1)", x.signs(-1), NONE);
    }

    private static void checkSigns(StairRegiment x, int[][] rows) {
        int[][] before = new int[4][4];
        for (int[] row : rows) {
            for (int i = 0; i < 4; i++) {
                for (int j = i + 1; j < 4; j++) {
                    before[row[i]][row[j]]++;
                }
            }
        }
        int wins = NONE;
        int signs = 0;
        for (int a = 0; a < 4; a++) {
            boolean all = true;
            for (int b = 0; b < 4; b++) {
                all &= a == b || before[a][b] * 2 > rows.length;
                signs += before[a][b] == rows.length ? 1 : 0;
            }
            wins = all ? a : wins;
        }
        int top = 15;
        for (int set = 1; set < 16; set++) {
            boolean so = true;
            for (int a = 0; a < 4; a++) {
                for (int b = 0; b < 4; b++) {
                    if ((set >> a & 1) == 1 && (set >> b & 1) == 0) {
                        so &= before[a][b] * 2 > rows.length;
                    }
                }
            }
            if (so && Integer.bitCount(set) < Integer.bitCount(top)) {
                top = set;
            }
        }
        check.due("wins", x.signs(0), wins);
        check.due("top", x.signs(1), top);
        check.due("signs", x.signs(2), signs);
    }

    // ---- DRILL

    private static void drills() {
        StairRegiment x = new StairRegiment();
        int[] wrongs = {-1, 0, 12345678, 1234568, 11234567, 123456, 101234567, Integer.MAX_VALUE, Integer.MIN_VALUE, 7654321};
        for (int w : wrongs) {
            check.due("drill(" + w + ")", x.drill(w), w == 7654321);
        }
        check.due("07654321", x.drilled(1, 0), 0);
        check.due("07654321", x.drilled(1, 1), 7);
        check.due("a wrong row changes nothing", x.drill(76543211), false);
        check.due("07654321", x.drilled(1, 1), 7);
        for (int round = 0; round < 200; round++) {
            int[] row = shuffled(8);
            check.due("drill", x.drill(number(row)), true);
            int[] stand = {0, 1, 2, 3, 4, 5, 6, 7};
            int back = 0;
            for (int n = 0; n <= 40; n++) {
                for (int p = 0; p < 8; p++) {
                    check.due("drilled(" + n + ", " + p + ")", x.drilled(n, p), stand[p]);
                }
                int[] next = new int[8];
                for (int p = 0; p < 8; p++) {
                    next[p] = stand[row[p]];
                }
                stand = next;
                if (back == 0 && Arrays.equals(stand, new int[] {0, 1, 2, 3, 4, 5, 6, 7})) {
                    back = n + 1;
                }
            }
            check.due("behind how many", x.drilled(0, NONE), back);
            check.due("a million", x.drilled(1000000, 3), x.drilled(1000000 % back, 3));
        }
        check.due("n 1000001", x.drilled(1000001, 0), NONE);
        check.due("n -1", x.drilled(-1, 0), NONE);
        check.due("p 8", x.drilled(1, 8), NONE);
        check.due("p -2", x.drilled(1, -2), NONE);
    }

    // ---- HALVES

    private static void betweens() {
        StairRegiment x = new StairRegiment();
        int[] wrongs = {-1, 0, 100, 9900, 10000, 10001, -101, Integer.MAX_VALUE, Integer.MIN_VALUE};
        for (int w : wrongs) {
            check.due("between(" + w + ", 101)", x.between(w, 101), NONE);
            check.due("between(101, " + w + ")", x.between(101, w), NONE);
        }
        check.due("alike", x.between(102, 4998), NONE);
        check.due("alike", x.between(204, 102), NONE);
        check.due("0 and 0", x.between(1, 99), NONE);
        check.due("98 and 99", x.between(9901, 9801), 197002);
        check.due("98 by 99 and 97 by 98", x.between(9899, 9798), 195197);
        for (int round = 0; round < 3000; round++) {
            int a = random.nextInt(round % 2 == 0 ? 100 : 12);
            int b = 1 + random.nextInt(99);
            int c = random.nextInt(round % 2 == 0 ? 100 : 12);
            int d = 1 + random.nextInt(99);
            check.due("between", x.between(100 * a + b, 100 * c + d), plainBetween(a, b, c, d));
        }
    }

    private static int plainBetween(int a, int b, int c, int d) {
        if (a * d == c * b) {
            return NONE;
        }
        for (int q = 1; ; q++) {
            for (int p = 0; p <= 100 * q; p++) {
                boolean aboveFirst = p * b > a * q;
                boolean aboveSecond = p * d > c * q;
                boolean belowFirst = p * b < a * q;
                boolean belowSecond = p * d < c * q;
                if (aboveFirst && belowSecond || aboveSecond && belowFirst) {
                    return 1000 * p + q;
                }
            }
        }
    }

    // ---- SPIRAL

    private static void spirals() {
        StairRegiment x = new StairRegiment();
        int px = 0;
        int py = 0;
        int dx = 1;
        int dy = 0;
        int run = 1;
        int left = 1;
        boolean second = false;
        for (int n = 0; n <= 100000; n++) {
            check.due("spiral(" + n + ", 0)", x.spiral(n, 0), px);
            check.due("spiral(" + n + ", 1)", x.spiral(n, 1), py);
            if (Math.abs(px) <= 100 && Math.abs(py) <= 100) {
                check.due("winds(" + px + ", " + py + ")", x.winds(px, py), n);
            }
            px += dx;
            py += dy;
            left--;
            if (left == 0) {
                int was = dx;
                dx = -dy;
                dy = was;
                run += second ? 1 : 0;
                second = !second;
                left = run;
            }
        }
        check.due("spiral(-1, 0)", x.spiral(-1, 0), -1000);
        check.due("spiral(100001, 1)", x.spiral(100001, 1), -1000);
        check.due("spiral(1, 2)", x.spiral(1, 2), -1000);
        check.due("spiral(1, -1)", x.spiral(1, -1), -1000);
        check.due("winds(101, 0)", x.winds(101, 0), NONE);
        check.due("winds(-101, 0)", x.winds(-101, 0), NONE);
        check.due("winds(0, 101)", x.winds(0, 101), NONE);
        check.due("winds(0, -101)", x.winds(0, -101), NONE);
        check.due("winds(MIN, 0)", x.winds(Integer.MIN_VALUE, 0), NONE);
        check.due("winds(0, MAX)", x.winds(0, Integer.MAX_VALUE), NONE);
    }

    // ---- MISSING

    private static void missings() {
        StairRegiment x = new StairRegiment();
        check.due("calls(16)", x.calls(16), NONE);
        check.due("calls(-2)", x.calls(-2), NONE);
        for (int round = 0; round < 300; round++) {
            check.due("none is then", x.calls(NONE), 0);
            int n = random.nextInt(13);
            int[] count = new int[16];
            int range = 1 + random.nextInt(16);
            for (int i = 1; i <= n; i++) {
                int v = random.nextInt(range);
                count[v]++;
                check.due("calls", x.calls(v), i);
            }
            if (n == 12) {
                check.due("thirteenth", x.calls(1), NONE);
            }
            int least = 0;
            while (count[least] > 0) {
                least++;
            }
            int odd = NONE;
            int odds = 0;
            for (int v = 0; v < 16; v++) {
                if (count[v] % 2 == 1) {
                    odd = v;
                    odds++;
                }
            }
            check.due("least", x.missing(0), least);
            check.due("only odd", x.missing(1), odds == 1 ? odd : NONE);
        }
        check.due("missing(2)", x.missing(2), NONE);
        check.due("missing(-1)", x.missing(-1), NONE);
        x.calls(NONE);
        for (int v = 0; v < 12; v++) {
            x.calls(v);
        }
        check.due("0 .. 11 told", x.missing(0), 12);
        x.calls(NONE);
        x.calls(15);
        check.due("15", x.missing(1), 15);
    }

    // ---- RUNNER

    private static int fewest;
    private static int mostLeft;

    private static void cut(int[] lengths, int at, int[] used, int rolls, int r) {
        if (at == lengths.length) {
            int left = 0;
            for (int i = 0; i < rolls; i++) {
                left = Math.max(left, r - used[i]);
            }
            if (rolls < fewest || rolls == fewest && left > mostLeft) {
                fewest = rolls;
                mostLeft = left;
            }
            return;
        }
        for (int i = 0; i <= rolls; i++) {
            int need = i == rolls ? lengths[at] : used[i] + 1 + lengths[at];
            if (need <= r) {
                int was = used[i];
                used[i] = need;
                cut(lengths, at + 1, used, Math.max(rolls, i + 1), r);
                used[i] = was;
            }
        }
    }

    private static void runners() {
        StairRegiment x = new StairRegiment();
        check.due("length(0)", x.length(0), NONE);
        check.due("length(61)", x.length(61), NONE);
        check.due("length(-2)", x.length(-2), NONE);
        check.due("none told", x.runner(5, 0), 0);
        check.due("none told", x.runner(5, 1), 0);
        for (int round = 0; round < 400; round++) {
            check.due("none is then", x.length(NONE), 0);
            int n = 1 + random.nextInt(7);
            int most = 1 + random.nextInt(60);
            int[] lengths = new int[n];
            for (int i = 0; i < n; i++) {
                lengths[i] = 1 + random.nextInt(most);
                check.due("length", x.length(lengths[i]), i + 1);
            }
            if (n == 7) {
                check.due("eighth", x.length(1), NONE);
            }
            int r = 1 + random.nextInt(120);
            fewest = Integer.MAX_VALUE;
            mostLeft = NONE;
            cut(lengths, 0, new int[8], 0, r);
            boolean can = fewest != Integer.MAX_VALUE;
            check.due("runner 0", x.runner(r, 0), can ? fewest : NONE);
            check.due("runner 1", x.runner(r, 1), can ? mostLeft : NONE);
        }
        x.length(NONE);
        x.length(60);
        x.length(59);
        check.due("just on one", x.runner(120, 0), 1);
        check.due("nothing left", x.runner(120, 1), 0);
        check.due("by one too short", x.runner(119, 0), 2);
        x.length(NONE);
        x.length(1);
        x.length(1);
        check.due("r 1", x.runner(1, 0), 2);
        check.due("r 2: the cut costs, too", x.runner(2, 0), 2);
        check.due("r 2: what is left", x.runner(2, 1), 1);
        check.due("r 0", x.runner(0, 0), NONE);
        check.due("r 121", x.runner(121, 0), NONE);
        check.due("what 2", x.runner(60, 2), NONE);
        check.due("what -1", x.runner(60, -1), NONE);
    }

    // ---- RAMP

    private static int plainRamp(int[] walls, int u, int h) {
        TreeSet<Integer> heights = new TreeSet<>(List.of(0));
        for (int foot = 0; foot <= 200; foot++) {
            if (foot >= walls.length && heights.contains(h)) {
                return foot;
            }
            TreeSet<Integer> next = new TreeSet<>();
            for (int high : heights) {
                for (int up = 0; up <= u; up++) {
                    if (high + up <= 100 && (foot >= walls.length || high + up >= walls[foot])) {
                        next.add(high + up);
                    }
                }
            }
            heights = next;
        }
        return NONE;
    }

    private static void ramps() {
        StairRegiment x = new StairRegiment();
        check.due("wall(100)", x.wall(100), NONE);
        check.due("wall(-2)", x.wall(-2), NONE);
        for (int round = 0; round < 300; round++) {
            check.due("none is then", x.wall(NONE), 0);
            int[] walls = new int[random.nextInt(9)];
            for (int i = 0; i < walls.length; i++) {
                walls[i] = random.nextInt(1 + random.nextInt(30 + i * 8));
                check.due("wall", x.wall(walls[i]), i + 1);
            }
            if (walls.length == 8) {
                check.due("ninth", x.wall(1), NONE);
            }
            int u = 1 + random.nextInt(9);
            int h = random.nextInt(100);
            check.due("ramp", x.ramp(u, h), plainRamp(walls, u, h));
        }
        x.wall(NONE);
        x.wall(9);
        check.due("just the wall", x.ramp(9, 9), 1);
        check.due("the wall is too high", x.ramp(8, 9), NONE);
        check.due("h below the wall", x.ramp(9, 8), NONE);
        check.due("u 0", x.ramp(0, 9), NONE);
        check.due("u 10", x.ramp(10, 9), NONE);
        check.due("h -1", x.ramp(9, -1), NONE);
        check.due("h 100", x.ramp(9, 100), NONE);
        check.due("h 99", x.ramp(1, 99), NONE);
        check.due("h 99", x.ramp(9, 99), 11);
    }

    // ---- BOX

    private static void boxes() {
        StairRegiment x = new StairRegiment();
        int[][] wrongs = {{0, 101}, {10100, 101}, {10001, 101}, {101, 101}, {-10101, 101}, {1000000, 101}, {1010101, 101}, {10101, 0},
            {10101, 1}, {10101, 100}, {10101, 10000}, {10101, 10101}, {10101, -101}, {Integer.MAX_VALUE, Integer.MIN_VALUE}};
        for (int[] w : wrongs) {
            check.due("box(" + w[0] + ", " + w[1] + ")", x.box(w[0], w[1], 0), NONE);
            check.due("box(" + w[0] + ", " + w[1] + ")", x.box(w[0], w[1], 1), NONE);
        }
        check.due("what 2", x.box(10101, 101, 2), NONE);
        check.due("what -1", x.box(10101, 101, -1), NONE);
        check.due("all six", x.box(10101, 101, 1), 6);
        check.due("the greatest", x.box(999999, 9999, 1), 6);
        int[][] ways = {{0, 1, 2}, {0, 2, 1}, {1, 0, 2}, {1, 2, 0}, {2, 0, 1}, {2, 1, 0}};
        for (int round = 0; round < 2000; round++) {
            int[] s = {1 + random.nextInt(99), 1 + random.nextInt(99), 1 + random.nextInt(99)};
            int d = 1 + random.nextInt(99);
            int e = 1 + random.nextInt(99);
            if (round % 2 == 0) {
                s[0] = d;
                s[1] = s[2];
            }
            int count = 0;
            for (int[] w : ways) {
                count += s[w[0]] <= d && s[w[1]] <= e ? 1 : 0;
            }
            int abc = s[0] * 10000 + s[1] * 100 + s[2];
            check.due("box 0", x.box(abc, 100 * d + e, 0), count > 0 ? 1 : 0);
            check.due("box 1", x.box(abc, 100 * d + e, 1), count);
        }
    }

    // ---- CELLAR

    private static void rowsOf(String done, String left, TreeSet<String> rows) {
        if (left.isEmpty()) {
            rows.add(done);
        }
        for (int i = 0; i < left.length(); i++) {
            if (left.indexOf(left.charAt(i)) == i) {
                rowsOf(done + left.charAt(i), left.substring(0, i) + left.substring(i + 1), rows);
            }
        }
    }

    private static void cellars() {
        StairRegiment x = new StairRegiment();
        check.due("digit(10)", x.digit(10), NONE);
        check.due("digit(-2)", x.digit(-2), NONE);
        check.due("empty", x.cellar(0), NONE);
        check.due("empty", x.cellar(10), 1);
        check.due("empty", x.cellar(11), 0);
        for (int round = 0; round < 200; round++) {
            check.due("none is then", x.digit(NONE), 0);
            int n = 1 + random.nextInt(7);
            int range = 1 + random.nextInt(10);
            StringBuilder row = new StringBuilder();
            for (int i = 0; i < n; i++) {
                int d = random.nextInt(range);
                row.append(d);
                check.due("digit", x.digit(d), i + 1);
            }
            TreeSet<String> rows = new TreeSet<>();
            rowsOf("", row.toString(), rows);
            String next = rows.higher(row.toString());
            for (int p = 0; p < 10; p++) {
                check.due("next of " + row, x.cellar(p), next == null || p >= n ? NONE : next.charAt(p) - '0');
            }
            check.due("which is " + row, x.cellar(11), rows.headSet(row.toString()).size());
            check.due("rows of " + row, x.cellar(10), rows.size());
        }
        x.digit(NONE);
        for (int d = 9; d >= 0; d--) {
            x.digit(d);
        }
        check.due("eleventh", x.digit(1), NONE);
        check.due("ten", x.cellar(10), 3628800);
        check.due("the last", x.cellar(11), 3628799);
        check.due("no next", x.cellar(0), NONE);
        x.digit(NONE);
        for (int i = 0; i < 10; i++) {
            x.digit(i < 5 ? 3 : 7);
        }
        check.due("two by five", x.cellar(10), 252);
        check.due("the first", x.cellar(11), 0);
        check.due("next", x.cellar(4) * 10 + x.cellar(5), 73);
        check.due("what 12", x.cellar(12), NONE);
        check.due("what -1", x.cellar(-1), NONE);
    }

    // ---- GAME

    private static final Map<String, Boolean> wins = new HashMap<>();

    private static boolean winning(int[] coins) {
        String key = Arrays.toString(coins);
        Boolean known = wins.get(key);
        if (known == null) {
            known = plainMove(coins) != null;
            wins.put(key, known);
        }
        return known;
    }

    private static int[] plainMove(int[] coins) {
        for (int stair = 1; stair <= 8; stair++) {
            for (int k = 1; k <= coins[stair]; k++) {
                int[] then = coins.clone();
                then[stair] -= k;
                if (stair > 1) {
                    then[stair - 1] += k;
                }
                if (!winning(then)) {
                    return new int[] {stair, k};
                }
            }
        }
        return null;
    }

    private static void games() {
        StairRegiment x = new StairRegiment();
        check.due("stair 0", x.coins(0, 1), false);
        check.due("stair 9", x.coins(9, 1), false);
        check.due("coins -1", x.coins(1, -1), false);
        check.due("coins 21", x.coins(1, 21), false);
        check.due("stair MIN", x.coins(Integer.MIN_VALUE, 1), false);
        check.due("none", x.game(0), NONE);
        for (int round = 0; round < 150; round++) {
            int[] coins = new int[9];
            for (int i = 2 + random.nextInt(4); i > 0; i--) {
                coins[1 + random.nextInt(8)] += 1;
            }
            if (round % 3 == 0) {
                coins = new int[] {0, random.nextInt(5), random.nextInt(5), random.nextInt(5), 0, 0, 0, 0, 0};
            }
            for (int stair = 1; stair <= 8; stair++) {
                check.due("coins", x.coins(stair, coins[stair]), true);
            }
            int[] move = plainMove(coins);
            check.due("game 0 of " + Arrays.toString(coins), x.game(0), move == null ? NONE : move[0]);
            check.due("game 1 of " + Arrays.toString(coins), x.game(1), move == null ? NONE : move[1]);
        }
        for (int stair = 1; stair <= 8; stair++) {
            check.due("twenty", x.coins(stair, 20), true);
        }
        check.due("even heaps", x.game(0), NONE);
        x.coins(1, 3);
        check.due("20 against 3: 17 up by one stair", x.game(0) * 100 + x.game(1), 217);
        check.due("game(2)", x.game(2), NONE);
        check.due("game(-1)", x.game(-1), NONE);
    }
}
