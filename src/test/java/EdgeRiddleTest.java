/** The edges of promises 21, 22 and 25 to 40, thoughts about what is told: a test for each sentence that names one. */
public final class EdgeRiddleTest {
    private static final Check check = new Check("EdgeRiddleTest");
    private static final int NONE = StairRegiment.NONE;
    private static final int MIN = Integer.MIN_VALUE;
    private static final int MAX = Integer.MAX_VALUE;
    private static final int[] NO_WHATS = {-1, 2, 3, MIN, MAX};

    public static void main(String[] args) {
        sevenSigners();
        signerRows();
        noSigner();
        winsWithMoreThanHalf();
        topIsTheSmallest();
        signsOfAll();
        signsWhats();
        drillAtFirst();
        drillRows();
        drilledBounds();
        drilledNoTimes();
        whoComesFromWhere();
        drilledRoundWraps();
        behindHowMany();
        betweenBounds();
        betweenAlike();
        strictlyBetween();
        leastBelowThenAbove();
        spiralBounds();
        spiralTurns();
        windsBounds();
        twelveNumbers();
        numberBounds();
        leastThatIsNotTold();
        onlyOneOdd();
        missingWhats();
        sevenLengths();
        lengthBounds();
        runnerBounds();
        runnerNoneTold();
        lastCutIsFree();
        oneTooLong();
        mostThatCanBeLeft();
        eightWalls();
        wallBounds();
        rampBounds();
        rampWithoutWalls();
        rampAtEachFoot();
        rampNotAheadOfTheLast();
        rampNeverDown();
        boxBounds();
        boxWhats();
        boxJustGoes();
        boxSixWays();
        tenDigits();
        digitBounds();
        cellarEmpty();
        cellarLastRow();
        cellarBeyondTheRow();
        cellarAlikeDigits();
        cellarOfTen();
        coinsBounds();
        coinsAtFirst();
        coinsTakeTheOlderPlace();
        gameWhats();
        lastToTheGroundWins();
        lowestStairFewestCoins();
        check.finish();
    }

    // ---- BLIND, promises 21 and 22

    /** "up to 7 told signers' rows"; promise 21: "how many; NONE .. if .. there are seven"; "(NONE: none is then)". */
    private static void sevenSigners() {
        StairRegiment x = new StairRegiment();
        for (int i = 1; i <= 7; i++) {
            check.due("signer", x.signer(i <= 3 ? 3210 : 123), i);
        }
        check.due("an eighth", x.signer(123), NONE);
        check.due("four of seven", x.signs(0), 0);
        check.due("none is then", x.signer(NONE), 0);
        check.due("none is then", x.signer(NONE), 0);
        check.due("top of none", x.signs(1), 15);
        check.due("the first again", x.signer(3210), 1);
        check.due("3 is before each", x.signs(0), 3);
    }

    /** "(four digits 0 .. 3, each once ..)"; promise 21: "NONE if one can't be (each once)". */
    private static void signerRows() {
        int right = 0;
        for (int row = 0; row <= 4000; row++) {
            int digits = 1 << row / 1000 | 1 << row / 100 % 10 | 1 << row / 10 % 10 | 1 << row % 10;
            StairRegiment x = new StairRegiment();
            check.due("signer(" + row + ")", x.signer(row), digits == 15 ? 1 : NONE);
            right += digits == 15 ? 1 : 0;
        }
        check.due("all rows", right, 24);
        StairRegiment x = new StairRegiment();
        for (int row : new int[] {-2, -123, -3210, 10123, 32100, 12304, 1000123, MIN, MAX}) {
            check.due("signer(" + row + ")", x.signer(row), NONE);
        }
        check.due("none was told", x.signer(123), 1);
    }

    /** Promise 22: "1 TOP (a set; none told: 15), 2 SIGNS (none told: 0)"; WINS: NONE. */
    private static void noSigner() {
        StairRegiment x = new StairRegiment();
        check.due("WINS", x.signs(0), NONE);
        check.due("TOP", x.signs(1), 15);
        check.due("SIGNS", x.signs(2), 0);
    }

    private static StairRegiment signers(int... rows) {
        StairRegiment x = new StairRegiment();
        for (int row : rows) {
            x.signer(row);
        }
        return x;
    }

    /** "who is before each other one with more than half (NONE)": half is too few. */
    private static void winsWithMoreThanHalf() {
        check.due("one of one", signers(2013).signs(0), 2);
        check.due("one of two", signers(123, 1023).signs(0), NONE);
        check.due("two of three", signers(123, 1023, 1203).signs(0), 1);
        check.due("two of four", signers(123, 132, 1023, 1203).signs(0), NONE);
        check.due("three of four", signers(123, 132, 213, 1203).signs(0), 0);
        check.due("before all but one", signers(123, 1230, 3012).signs(0), NONE);
        check.due("never first, but before each", signers(1023, 2013, 3012, 123, 213).signs(0), 0);
    }

    /** "the smallest set, not empty, each of which is before each one not in it with more than half". */
    private static void topIsTheSmallest() {
        for (int one = 0; one < 4; one++) {
            int[] rows = {123, 1023, 2013, 3012};
            check.due("one of one", signers(rows[one]).signs(1), 1 << one);
        }
        check.due("half is too few", signers(123, 3210).signs(1), 15);
        check.due("two at half", signers(123, 1023).signs(1), 3);
        check.due("a ring of three", signers(123, 1203, 2013).signs(1), 7);
        check.due("a ring of all", signers(123, 1230, 2301, 3012).signs(1), 15);
        check.due("winner alone", signers(123, 123, 3210).signs(1), 1);
    }

    /** "how many couples stand in the same order with all". */
    private static void signsOfAll() {
        check.due("one signer: all", signers(3012).signs(2), 6);
        check.due("seven alike: all", signers(123, 123, 123, 123, 123, 123, 123).signs(2), 6);
        check.due("just turned: none", signers(123, 3210).signs(2), 0);
        check.due("one couple turned", signers(123, 132).signs(2), 5);
        check.due("one of seven is enough", signers(123, 123, 123, 123, 123, 123, 3210).signs(2), 0);
    }

    /** Promise 22: "NONE, too, for another what". */
    private static void signsWhats() {
        StairRegiment x = signers(123);
        for (int what : new int[] {-1, 3, 4, MIN, MAX}) {
            check.due("signs(" + what + ")", x.signs(what), NONE);
            check.due("signs(" + what + ") of none", new StairRegiment().signs(what), NONE);
        }
    }

    // ---- DRILL, promises 25 and 26

    /** Promise 25: "(01234567 is 1234567, as at first)". */
    private static void drillAtFirst() {
        StairRegiment x = new StairRegiment();
        for (int round = 0; round < 2; round++) {
            for (int p = 0; p < 8; p++) {
                check.due("everyone stays", x.drilled(1, p), p);
                check.due("everyone stays", x.drilled(1000000, p), p);
            }
            check.due("behind one", x.drilled(1, NONE), 1);
            check.due("another row", x.drill(12345670), true);
            check.due("as at first", x.drill(1234567), true);
        }
    }

    /** "a told row of 8 digits 0 .. 7, each once"; promise 25: "false if one can't be". */
    private static void drillRows() {
        int[] wrongs = {NONE, 0, 1, 123456, 1234566, 1234568, 1234569, 11234567, 12345678, 12345677, 76543211, 76543218, 101234567, 112345670, 1234567 * 10 + 8,
            -1234567, -76543210, MIN, MAX};
        for (int row : wrongs) {
            StairRegiment x = new StairRegiment();
            check.due("drill", x.drill(70123456), true);
            check.due("drill(" + row + ")", x.drill(row), false);
            check.due("the row stays", x.drilled(1, 0), 7);
            check.due("the row stays", x.drilled(0, NONE), 8);
        }
        StairRegiment x = new StairRegiment();
        for (int row : new int[] {1234567, 1234576, 7654321, 10234567, 76543210}) {
            check.due("drill(" + row + ")", x.drill(row), true);
        }
    }

    /** "behind n (0 .. 1000000) times who is at place p"; promise 26: "NONE if one can't be". */
    private static void drilledBounds() {
        StairRegiment x = new StairRegiment();
        x.drill(12345670);
        for (int n : new int[] {-1, -2, 1000001, MIN, MAX}) {
            check.due("drilled(" + n + ", 0)", x.drilled(n, 0), NONE);
        }
        for (int p : new int[] {8, 9, -2, MIN, MAX}) {
            check.due("drilled(1, " + p + ")", x.drilled(1, p), NONE);
        }
        check.due("a million is 125000 rounds", x.drilled(1000000, 7), 7);
        check.due("one less", x.drilled(999999, 7), 6);
        check.due("place 0", x.drilled(1, 0), 1);
        check.due("place 7", x.drilled(1, 7), 0);
    }

    /** n may be 0: nobody has moved yet. */
    private static void drilledNoTimes() {
        StairRegiment x = new StairRegiment();
        x.drill(76543210);
        for (int p = 0; p < 8; p++) {
            check.due("drilled(0, " + p + ")", x.drilled(0, p), p);
        }
    }

    /** "(who comes to place i was at the place that digit i tells)". */
    private static void whoComesFromWhere() {
        StairRegiment x = new StairRegiment();
        x.drill(20134567);
        int[][] due = {{0, 1, 2}, {2, 0, 1}, {1, 2, 0}, {0, 1, 2}};
        for (int n = 0; n < 4; n++) {
            for (int p = 0; p < 3; p++) {
                check.due("drilled(" + n + ", " + p + ")", x.drilled(n, p), due[n][p]);
            }
            check.due("who stays", x.drilled(n, 3), 3);
        }
    }

    /** It comes round: behind a whole round all is as at first. */
    private static void drilledRoundWraps() {
        StairRegiment x = new StairRegiment();
        // a ring of five, one of three
        x.drill(12340675);
        for (int p = 0; p < 8; p++) {
            check.due("fifteen", x.drilled(15, p), p);
            check.due("thirty", x.drilled(30, p), p);
            check.due("sixteen as one", x.drilled(16, p), x.drilled(1, p));
            check.due("one goes on", x.drilled(1, p) == p, false);
        }
        check.due("five: the ring of five is round", x.drilled(5, 0), 0);
        check.due("five: the ring of three is not", x.drilled(5, 5) == 5, false);
    }

    /** "behind how many all are where they were"; promise 26: "(p NONE)". */
    private static void behindHowMany() {
        int[][] due = {{1234567, 1}, {10234567, 2}, {12034567, 3}, {12304567, 4}, {12340567, 5}, {12345067, 6}, {12345607, 7}, {12345670, 8},
            {76543210, 2}, {12034576, 6}, {12034675, 3}, {12340675, 15}, {12340576, 10}, {12304756, 12}, {12305476, 4}};
        for (int[] d : due) {
            StairRegiment x = new StairRegiment();
            check.due("drill(" + d[0] + ")", x.drill(d[0]), true);
            check.due("round of " + d[0], x.drilled(0, NONE), d[1]);
            check.due("round of " + d[0], x.drilled(1000000, NONE), d[1]);
        }
    }

    // ---- HALVES, promise 27

    /** "(0 .. 99 by 1 .. 99)"; promise 27: "NONE, too, if one can't be". */
    private static void betweenBounds() {
        StairRegiment x = new StairRegiment();
        for (int wrong : new int[] {0, 100, 200, 9900, 10000, 10001, 10101, -1, -100, -101, MIN, MAX}) {
            check.due("between(" + wrong + ", 101)", x.between(wrong, 101), NONE);
            check.due("between(101, " + wrong + ")", x.between(101, wrong), NONE);
            check.due("between(" + wrong + ", 1)", x.between(wrong, 1), NONE);
        }
        check.due("0 by 1, 99 by 1", x.between(1, 9901), 1001);
        check.due("0 by 99, 1 by 99", x.between(99, 199), 1100);
        check.due("99 by 99, 99 by 98", x.between(9999, 9998), 100099);
        check.due("99 by 1, 98 by 1", x.between(9901, 9801), 197002);
    }

    /** "(NONE: they are alike)". */
    private static void betweenAlike() {
        StairRegiment x = new StairRegiment();
        check.due("the same", x.between(102, 102), NONE);
        check.due("1 by 2, 2 by 4", x.between(102, 204), NONE);
        check.due("49 by 98, 1 by 2", x.between(4998, 102), NONE);
        check.due("99 by 99, 1 by 1", x.between(9999, 101), NONE);
        check.due("0 by 1, 0 by 99", x.between(1, 99), NONE);
    }

    /** "strictly between both": neither of them, whichever is told first. */
    private static void strictlyBetween() {
        StairRegiment x = new StairRegiment();
        check.due("0 and 1", x.between(1, 101), 1002);
        check.due("1 and 0", x.between(101, 1), 1002);
        check.due("0 and 2", x.between(1, 201), 1001);
        check.due("1 and 2", x.between(101, 201), 3002);
        check.due("1 by 2 and 1", x.between(102, 101), 2003);
        check.due("1 by 3 and 1 by 2", x.between(103, 102), 2005);
        check.due("98 by 99 and 97 by 98", x.between(9899, 9798), 195197);
    }

    /** "with the least below, of several with the least above". */
    private static void leastBelowThenAbove() {
        StairRegiment x = new StairRegiment();
        check.due("the least below", x.between(3499, 6799), 1002);
        check.due("of 1 to 98 by 1", x.between(1, 9901), 1001);
        check.due("of 1 and 2 by 3", x.between(110, 810), 1002);
        check.due("1 by 3, not 2 by 3", x.between(110, 410), 1003);
        check.due("of 6 .. 8 by 1", x.between(501, 901), 6001);
    }

    // ---- SPIRAL, promises 28 and 29

    /** "step n (0 .. 100000)"; promise 28: "NONE - 999 if n can't be, or another what". */
    private static void spiralBounds() {
        StairRegiment x = new StairRegiment();
        for (int n : new int[] {-1, -2, 100001, MIN, MAX}) {
            check.due("spiral(" + n + ", 0)", x.spiral(n, 0), -1000);
            check.due("spiral(" + n + ", 1)", x.spiral(n, 1), -1000);
        }
        for (int what : NO_WHATS) {
            check.due("spiral(0, " + what + ")", x.spiral(0, what), -1000);
            check.due("spiral(100000, " + what + ")", x.spiral(100000, what), -1000);
        }
        // 316 * 316 is 99856, the upper left corner -158, 158: from there 144 down
        check.due("x of 100000", x.spiral(100000, 0), -158);
        check.due("y of 100000", x.spiral(100000, 1), 14);
        check.due("origin", x.spiral(0, 0), 0);
        check.due("origin", x.spiral(0, 1), 0);
    }

    /** "first right, then up, left, down". */
    private static void spiralTurns() {
        StairRegiment x = new StairRegiment();
        int[][] places = {{0, 0}, {1, 0}, {1, 1}, {0, 1}, {-1, 1}, {-1, 0}, {-1, -1}, {0, -1}, {1, -1}, {2, -1}, {2, 0}, {2, 1}, {2, 2}, {1, 2}};
        for (int n = 0; n < places.length; n++) {
            check.due("x of " + n, x.spiral(n, 0), places[n][0]);
            check.due("y of " + n, x.spiral(n, 1), places[n][1]);
            check.due("step at " + places[n][0] + " " + places[n][1], x.winds(places[n][0], places[n][1]), n);
        }
    }

    /** "of x, y (-100 .. 100 each) the step"; promise 29: "NONE if one can't be". */
    private static void windsBounds() {
        StairRegiment x = new StairRegiment();
        for (int wrong : new int[] {101, -101, 1000, MIN, MAX}) {
            check.due("winds(" + wrong + ", 0)", x.winds(wrong, 0), NONE);
            check.due("winds(0, " + wrong + ")", x.winds(0, wrong), NONE);
            check.due("winds(" + wrong + ", " + wrong + ")", x.winds(wrong, wrong), NONE);
        }
        check.due("lower right", x.winds(100, -100), 201 * 201 - 1);
        check.due("upper right", x.winds(100, 100), 199 * 199 - 1 + 200);
        check.due("upper left", x.winds(-100, 100), 199 * 199 - 1 + 400);
        check.due("lower left", x.winds(-100, -100), 199 * 199 - 1 + 600);
    }

    // ---- MISSING, promises 30 and 31

    /** "told numbers, up to 12"; promise 30: "how many; NONE .. if .. there are twelve"; "(NONE: none is then)". */
    private static void twelveNumbers() {
        StairRegiment x = new StairRegiment();
        for (int i = 1; i <= 12; i++) {
            check.due("calls", x.calls(i - 1), i);
        }
        check.due("a thirteenth", x.calls(12), NONE);
        check.due("it was not told", x.missing(0), 12);
        check.due("none is then", x.calls(NONE), 0);
        check.due("none is then", x.calls(NONE), 0);
        check.due("0 is missing", x.missing(0), 0);
        check.due("the first again", x.calls(15), 1);
    }

    /** "(0 .. 15)". */
    private static void numberBounds() {
        StairRegiment x = new StairRegiment();
        for (int wrong : new int[] {-2, 16, 17, 32, 99, MIN, MAX}) {
            check.due("calls(" + wrong + ")", x.calls(wrong), NONE);
        }
        check.due("0", x.calls(0), 1);
        check.due("15", x.calls(15), 2);
    }

    /** "the least that is not told". */
    private static void leastThatIsNotTold() {
        StairRegiment x = new StairRegiment();
        check.due("none told", x.missing(0), 0);
        x.calls(1);
        check.due("1 alone", x.missing(0), 0);
        x.calls(0);
        check.due("0, 1", x.missing(0), 2);
        x.calls(3);
        check.due("0, 1, 3", x.missing(0), 2);
        x.calls(2);
        check.due("0 .. 3", x.missing(0), 4);
    }

    /** "the only one told an odd number of times (NONE: none, or several)". */
    private static void onlyOneOdd() {
        StairRegiment x = new StairRegiment();
        check.due("none told", x.missing(1), NONE);
        x.calls(0);
        check.due("0 once", x.missing(1), 0);
        x.calls(15);
        check.due("two", x.missing(1), NONE);
        x.calls(0);
        check.due("15 once", x.missing(1), 15);
        x.calls(15);
        check.due("none", x.missing(1), NONE);
        x.calls(15);
        check.due("15 thrice", x.missing(1), 15);
        x.calls(1);
        x.calls(2);
        check.due("three", x.missing(1), NONE);
    }

    /** Promise 31: "NONE, too, for another what". */
    private static void missingWhats() {
        StairRegiment x = new StairRegiment();
        for (int what : NO_WHATS) {
            check.due("missing(" + what + ")", x.missing(what), NONE);
        }
    }

    // ---- RUNNER, promises 32 and 33

    private static StairRegiment lengths(int... lengths) {
        StairRegiment x = new StairRegiment();
        for (int v : lengths) {
            x.length(v);
        }
        return x;
    }

    private static void runner(StairRegiment x, int r, int rolls, int left) {
        check.due("runner(" + r + ", 0)", x.runner(r, 0), rolls);
        check.due("runner(" + r + ", 1)", x.runner(r, 1), left);
    }

    /** "lengths told, up to 7"; promise 32: "how many; NONE .. if .. there are seven"; "(NONE: none is then)". */
    private static void sevenLengths() {
        StairRegiment x = new StairRegiment();
        for (int i = 1; i <= 7; i++) {
            check.due("length", x.length(60), i);
        }
        check.due("an eighth", x.length(1), NONE);
        runner(x, 60, 7, 0);
        runner(x, 120, 7, 60);
        check.due("none is then", x.length(NONE), 0);
        check.due("none is then", x.length(NONE), 0);
        runner(x, 60, 0, 0);
        check.due("the first again", x.length(60), 1);
    }

    /** "(1 .. 60)". */
    private static void lengthBounds() {
        StairRegiment x = new StairRegiment();
        for (int wrong : new int[] {-2, 0, 61, 62, MIN, MAX}) {
            check.due("length(" + wrong + ")", x.length(wrong), NONE);
        }
        check.due("1", x.length(1), 1);
        check.due("60", x.length(60), 2);
    }

    /** "rolls of r (1 .. 120)"; promise 33: "NONE, too, if r can't be, or another what". */
    private static void runnerBounds() {
        StairRegiment x = lengths(1);
        for (int wrong : new int[] {0, -1, 121, 122, MIN, MAX}) {
            check.due("runner(" + wrong + ", 0)", x.runner(wrong, 0), NONE);
            check.due("runner(" + wrong + ", 1)", x.runner(wrong, 1), NONE);
            check.due("runner(" + wrong + ", 0) of none", new StairRegiment().runner(wrong, 0), NONE);
        }
        runner(x, 1, 1, 0);
        runner(x, 120, 1, 119);
        for (int what : NO_WHATS) {
            check.due("runner(60, " + what + ")", x.runner(60, what), NONE);
            check.due("runner(60, " + what + ") of none", new StairRegiment().runner(60, what), NONE);
        }
    }

    /** Promise 33: "(none told: 0, 0)". */
    private static void runnerNoneTold() {
        StairRegiment x = new StairRegiment();
        runner(x, 1, 0, 0);
        runner(x, 120, 0, 0);
    }

    /** "each cut but a roll's last costs 1". */
    private static void lastCutIsFree() {
        runner(lengths(60), 60, 1, 0);
        runner(lengths(10, 10), 20, 2, 10);
        runner(lengths(10, 10), 21, 1, 0);
        runner(lengths(10, 10), 22, 1, 1);
        runner(lengths(10, 10, 10), 32, 1, 0);
        runner(lengths(10, 10, 10), 31, 2, 21);
        runner(lengths(1, 1, 1, 1, 1, 1, 1), 13, 1, 0);
        runner(lengths(1, 1, 1, 1, 1, 1, 1), 12, 2, 11);
    }

    /** "the fewest rolls (NONE)": one that is longer than a roll can't be cut. */
    private static void oneTooLong() {
        runner(lengths(10, 11), 10, NONE, NONE);
        runner(lengths(10, 11), 11, 2, 1);
        runner(lengths(60), 59, NONE, NONE);
        runner(lengths(1, 1, 1, 1, 1, 1, 60), 59, NONE, NONE);
    }

    /** "the most that can be left on one of so many": not with more rolls than are needed. */
    private static void mostThatCanBeLeft() {
        // 3 alone would leave 7, but 6 and 4 are one too long with their cut: 4 alone leaves most
        runner(lengths(6, 4, 3), 10, 2, 6);
        runner(lengths(6, 4, 3), 11, 2, 8);
        runner(lengths(5, 5, 5, 5), 11, 2, 0);
        runner(lengths(5, 5, 5), 11, 2, 6);
    }

    // ---- RAMP, promises 34 and 35

    private static StairRegiment walls(int... walls) {
        StairRegiment x = new StairRegiment();
        for (int v : walls) {
            x.wall(v);
        }
        return x;
    }

    /** "up to 8 told walls"; promise 34: "how many; NONE .. if .. there are eight"; "(NONE: none is then)". */
    private static void eightWalls() {
        StairRegiment x = new StairRegiment();
        for (int i = 1; i <= 8; i++) {
            check.due("wall", x.wall(i), i);
        }
        check.due("a ninth", x.wall(99), NONE);
        check.due("eight feet", x.ramp(1, 8), 8);
        check.due("none is then", x.wall(NONE), 0);
        check.due("none is then", x.wall(NONE), 0);
        check.due("no foot", x.ramp(1, 0), 0);
        check.due("the first again", x.wall(9), 1);
        check.due("one foot", x.ramp(9, 9), 1);
    }

    /** "(0 .. 99 high)". */
    private static void wallBounds() {
        StairRegiment x = new StairRegiment();
        for (int wrong : new int[] {-2, 100, 101, MIN, MAX}) {
            check.due("wall(" + wrong + ")", x.wall(wrong), NONE);
        }
        check.due("0", x.wall(0), 1);
        check.due("99", x.wall(99), 2);
        check.due("99 at foot 2 can't be", x.ramp(9, 99), NONE);
    }

    /** "each foot 0 .. u (1 .. 9) up", "just h (0 .. 99) high"; promise 35: "NONE, too, if one can't be". */
    private static void rampBounds() {
        StairRegiment x = new StairRegiment();
        for (int wrong : new int[] {0, -1, 10, MIN, MAX}) {
            check.due("ramp(" + wrong + ", 0)", x.ramp(wrong, 0), NONE);
            check.due("ramp(" + wrong + ", 5)", x.ramp(wrong, 5), NONE);
        }
        for (int wrong : new int[] {-1, -2, 100, MIN, MAX}) {
            check.due("ramp(1, " + wrong + ")", x.ramp(1, wrong), NONE);
            check.due("ramp(9, " + wrong + ")", x.ramp(9, wrong), NONE);
        }
        check.due("99 by 1", x.ramp(1, 99), 99);
        check.due("99 by 9", x.ramp(9, 99), 11);
    }

    /** "from height 0 at foot 0". */
    private static void rampWithoutWalls() {
        StairRegiment x = new StairRegiment();
        for (int u = 1; u <= 9; u++) {
            check.due("0 high at foot 0", x.ramp(u, 0), 0);
            check.due("1 high at foot 1", x.ramp(u, 1), 1);
            check.due("u high at foot 1", x.ramp(u, u), 1);
            check.due("u + 1 high at foot 2", x.ramp(u, u + 1), 2);
        }
    }

    /** "the i-th at foot i", "at each told foot as high as the wall at least". */
    private static void rampAtEachFoot() {
        for (int foot = 1; foot <= 8; foot++) {
            StairRegiment x = new StairRegiment();
            for (int i = 1; i < foot; i++) {
                x.wall(0);
            }
            x.wall(foot * 2);
            check.due("just by 2", x.ramp(2, 2 * foot), foot);
            check.due("by 1 he can't", x.ramp(1, 2 * foot), NONE);
            check.due("one more by 2", x.ramp(2, 2 * foot + 1), foot + 1);
        }
        check.due("a wall in the midst", walls(0, 9, 0).ramp(4, 20), NONE);
        check.due("a wall in the midst", walls(0, 8, 0).ramp(4, 20), 5);
    }

    /** "the least foot, not ahead of the last told one". */
    private static void rampNotAheadOfTheLast() {
        check.due("flat", walls(0, 0, 0).ramp(9, 0), 3);
        check.due("h long before", walls(0, 0, 0, 0, 0, 0, 0, 0).ramp(9, 9), 8);
        check.due("h just there", walls(1, 1).ramp(1, 2), 2);
        check.due("h behind it", walls(1, 1).ramp(1, 3), 3);
    }

    /** "never down", "(NONE)": a wall above h can't be left behind. */
    private static void rampNeverDown() {
        check.due("above h", walls(5).ramp(9, 4), NONE);
        check.due("just h", walls(5).ramp(9, 5), 1);
        check.due("above h at the first of three", walls(5, 0, 0).ramp(9, 4), NONE);
        check.due("above 0", walls(1).ramp(9, 0), NONE);
        check.due("99 on 99", walls(0, 0, 0, 0, 0, 0, 0, 72).ramp(9, 99), 11);
    }

    // ---- BOX, promise 36

    /** "(1 .. 99 each ..)"; promise 36: "NONE if one can't be". */
    private static void boxBounds() {
        StairRegiment x = new StairRegiment();
        for (int what = 0; what <= 1; what++) {
            for (int abc : new int[] {0, 1, 101, 10000, 10001, 10100, 990099, 9999, 999900, 1000000, 1010101, -10101, MIN, MAX}) {
                check.due("box(" + abc + ", 9999, " + what + ")", x.box(abc, 9999, what), NONE);
            }
            for (int de : new int[] {0, 1, 99, 100, 9900, 10000, 10001, 10101, -101, -1, MIN, MAX}) {
                check.due("box(10101, " + de + ", " + what + ")", x.box(10101, de, what), NONE);
            }
        }
        check.due("least", x.box(10101, 101, 1), 6);
        check.due("most", x.box(999999, 9999, 1), 6);
        check.due("most through least", x.box(999999, 101, 1), 0);
        check.due("most through least", x.box(999999, 101, 0), 0);
    }

    /** Promise 36: "or another what". */
    private static void boxWhats() {
        StairRegiment x = new StairRegiment();
        for (int what : NO_WHATS) {
            check.due("box what " + what, x.box(10101, 101, what), NONE);
        }
    }

    /** An edge as long as the door's goes, one longer does not. */
    private static void boxJustGoes() {
        StairRegiment x = new StairRegiment();
        check.due("5 by 4 just", x.box(50499, 504, 1), 1);
        check.due("5 by 4 turned", x.box(50499, 405, 1), 1);
        check.due("one too narrow", x.box(50499, 503, 1), 0);
        check.due("one too low", x.box(50499, 404, 1), 0);
        check.due("whether", x.box(50499, 504, 0), 1);
        check.due("whether not", x.box(50499, 404, 0), 0);
    }

    /** "how many of the six ways to hold it go". */
    private static void boxSixWays() {
        StairRegiment x = new StairRegiment();
        int[] doors = {102, 103, 203, 302, 202, 303, 301, 101};
        int[] ways = {1, 2, 4, 4, 2, 6, 2, 0};
        for (int i = 0; i < doors.length; i++) {
            for (int abc : new int[] {10203, 10302, 20103, 20301, 30102, 30201}) {
                check.due("box(" + abc + ", " + doors[i] + ", 1)", x.box(abc, doors[i], 1), ways[i]);
                check.due("box(" + abc + ", " + doors[i] + ", 0)", x.box(abc, doors[i], 0), ways[i] > 0 ? 1 : 0);
            }
        }
    }

    // ---- CELLAR, promises 37 and 38

    private static StairRegiment digits(int... digits) {
        StairRegiment x = new StairRegiment();
        for (int v : digits) {
            x.digit(v);
        }
        return x;
    }

    /** "a told row of up to 10 digits"; promise 37: "how many; NONE .. if .. there are ten"; "(NONE: it is empty then)". */
    private static void tenDigits() {
        StairRegiment x = new StairRegiment();
        for (int i = 1; i <= 10; i++) {
            check.due("digit", x.digit(i == 10 ? 1 : 0), i);
        }
        check.due("an eleventh", x.digit(2), NONE);
        check.due("ten rows", x.cellar(10), 10);
        check.due("NEXT", x.cellar(8), 1);
        check.due("NEXT", x.cellar(9), 0);
        check.due("empty then", x.digit(NONE), 0);
        check.due("empty then", x.digit(NONE), 0);
        check.due("no NEXT", x.cellar(0), NONE);
        check.due("one row", x.cellar(10), 1);
        check.due("the first again", x.digit(9), 1);
    }

    private static void digitBounds() {
        StairRegiment x = new StairRegiment();
        for (int wrong : new int[] {-2, 10, 11, MIN, MAX}) {
            check.due("digit(" + wrong + ")", x.digit(wrong), NONE);
        }
        check.due("0", x.digit(0), 1);
        check.due("9", x.digit(9), 2);
        check.due("NEXT", x.cellar(0) * 10 + x.cellar(1), 90);
    }

    /** Of no digits there is one row, the first, and no greater one; promise 38: "NONE, too, if there is none, or for another what". */
    private static void cellarEmpty() {
        StairRegiment x = new StairRegiment();
        for (int what = 0; what <= 9; what++) {
            check.due("cellar(" + what + ") of none", x.cellar(what), NONE);
        }
        check.due("how many", x.cellar(10), 1);
        check.due("which", x.cellar(11), 0);
        for (int what : new int[] {-1, 12, 13, MIN, MAX}) {
            check.due("cellar(" + what + ")", x.cellar(what), NONE);
            check.due("cellar(" + what + ")", digits(1, 2).cellar(what), NONE);
        }
    }

    /** "the next greater row of the same digits (NONE)": behind the last one there is none. */
    private static void cellarLastRow() {
        int[][] lasts = {{0}, {9}, {1, 0}, {5, 5}, {3, 2, 1}, {2, 2, 1, 1}, {9, 8, 7, 6, 5, 4, 3, 2, 1, 0}, {7, 7, 7, 7, 7, 7, 7, 7, 7, 7}};
        int[] rows = {1, 1, 2, 1, 6, 6, 3628800, 1};
        for (int i = 0; i < lasts.length; i++) {
            StairRegiment x = digits(lasts[i]);
            for (int what = 0; what <= 9; what++) {
                check.due("behind the last", x.cellar(what), NONE);
            }
            check.due("how many", x.cellar(10), rows[i]);
            check.due("the last", x.cellar(11), rows[i] - 1);
        }
    }

    /** "what 0 .. 9 the digit of NEXT at that place": beyond the row there is none. */
    private static void cellarBeyondTheRow() {
        StairRegiment x = digits(0, 1, 2);
        int[] due = {0, 2, 1, NONE, NONE, NONE, NONE, NONE, NONE, NONE};
        for (int what = 0; what <= 9; what++) {
            check.due("cellar(" + what + ")", x.cellar(what), due[what]);
        }
        // nothing of an older, longer row is left
        x.digit(NONE);
        x.digit(1);
        x.digit(2);
        check.due("NEXT", x.cellar(0) * 10 + x.cellar(1), 21);
        check.due("beyond", x.cellar(2), NONE);
        check.due("the row itself stays", x.cellar(11), 0);
    }

    /** Of alike digits no row counts twice. */
    private static void cellarAlikeDigits() {
        int[][] rows = {{1, 1, 2}, {1, 2, 1}, {2, 1, 1}};
        for (int i = 0; i < 3; i++) {
            StairRegiment x = digits(rows[i]);
            check.due("three rows", x.cellar(10), 3);
            check.due("which", x.cellar(11), i);
            for (int p = 0; p < 3; p++) {
                check.due("NEXT", x.cellar(p), i == 2 ? NONE : rows[i + 1][p]);
            }
        }
    }

    private static void cellarOfTen() {
        StairRegiment x = digits(0, 1, 2, 3, 4, 5, 6, 7, 8, 9);
        check.due("how many", x.cellar(10), 3628800);
        check.due("the first", x.cellar(11), 0);
        check.due("NEXT", x.cellar(8) * 10 + x.cellar(9), 98);
        StairRegiment y = digits(0, 9, 8, 7, 6, 5, 4, 3, 2, 1);
        check.due("the last with 0", y.cellar(11), 362879);
        int[] next = {1, 0, 2, 3, 4, 5, 6, 7, 8, 9};
        for (int p = 0; p < 10; p++) {
            check.due("NEXT", y.cellar(p), next[p]);
        }
    }

    // ---- GAME, promises 39 and 40

    /** "coins on stairs 1 .. 8 (0 .. 20 each ..)"; promise 39: "true; false if one can't be". */
    private static void coinsBounds() {
        StairRegiment x = new StairRegiment();
        x.coins(1, 7);
        for (int stair : new int[] {0, -1, 9, 10, MIN, MAX}) {
            check.due("stair " + stair, x.coins(stair, 0), false);
            check.due("stair " + stair, x.coins(stair, 1), false);
        }
        for (int v : new int[] {-1, 21, 22, MIN, MAX}) {
            for (int stair = 1; stair <= 8; stair++) {
                check.due("coins " + v, x.coins(stair, v), false);
            }
        }
        check.due("as it was", x.game(0) * 100 + x.game(1), 107);
        for (int stair = 1; stair <= 8; stair++) {
            check.due("none", x.coins(stair, 0), true);
            check.due("twenty", x.coins(stair, 20), true);
        }
    }

    /** "(.. 0 at first)": nobody can carry, who begins loses. */
    private static void coinsAtFirst() {
        StairRegiment x = new StairRegiment();
        check.due("from which", x.game(0), NONE);
        check.due("how many", x.game(1), NONE);
        for (int stair = 1; stair <= 8; stair++) {
            StairRegiment y = new StairRegiment();
            y.coins(stair, 20);
            check.due("on stair " + stair + " alone", y.game(0), stair % 2 == 1 ? stair : NONE);
            check.due("all of them", y.game(1), stair % 2 == 1 ? 20 : NONE);
        }
    }

    /** Coins told again are those that lie there: no more are laid on them. */
    private static void coinsTakeTheOlderPlace() {
        StairRegiment x = new StairRegiment();
        x.coins(3, 20);
        x.coins(3, 5);
        check.due("five", x.game(1), 5);
        x.coins(3, 0);
        check.due("none", x.game(1), NONE);
    }

    /** Promise 40: "NONE, too, for another what". */
    private static void gameWhats() {
        StairRegiment x = new StairRegiment();
        x.coins(1, 5);
        for (int what : NO_WHATS) {
            check.due("game(" + what + ")", x.game(what), NONE);
        }
    }

    /** "who carries the last one to the ground wins": with one coin on stair 1 who begins, on stair 2 the other. */
    private static void lastToTheGroundWins() {
        StairRegiment x = new StairRegiment();
        x.coins(1, 1);
        check.due("one on 1", x.game(0) * 100 + x.game(1), 101);
        x.coins(2, 1);
        check.due("one on 1, one on 2", x.game(0) * 100 + x.game(1), 101);
        x.coins(1, 0);
        check.due("one on 2", x.game(0), NONE);
        x.coins(3, 1);
        // from 2 to 1 makes 1 and 3 alike
        check.due("one on 2, one on 3", x.game(0) * 100 + x.game(1), 201);
        x.coins(2, 0);
        x.coins(1, 1);
        check.due("one on 1, one on 3", x.game(0), NONE);
    }

    /** "from which stair (of several the lowest), how many (the fewest)". */
    private static void lowestStairFewestCoins() {
        StairRegiment x = new StairRegiment();
        x.coins(1, 1);
        x.coins(3, 2);
        x.coins(5, 3);
        check.due("even", x.game(0), NONE);
        x.coins(1, 2);
        // 2, 2, 3: 1 from stair 1 makes 1, 2, 3; so does 1 from stair 3, and all 3 of stair 5
        check.due("from 1", x.game(0) * 100 + x.game(1), 101);
        x.coins(3, 0);
        x.coins(5, 2);
        x.coins(7, 3);
        check.due("from 1, not from 5 or 7", x.game(0) * 100 + x.game(1), 101);
        x.coins(7, 0);
        x.coins(4, 20);
        x.coins(1, 3);
        x.coins(3, 3);
        x.coins(5, 1);
        // 3, 3, 1: from 1 one (2, 3, 1), and so from 3, or 1 from 5: the lowest
        check.due("from 1", x.game(0) * 100 + x.game(1), 101);
        x.coins(1, 2);
        x.coins(2, 1);
        x.coins(3, 2);
        x.coins(5, 1);
        // 2, 2, 1: 2 needs to be 3: one from 2, or one from 4, or one from 5: the lowest
        check.due("from 2", x.game(0) * 100 + x.game(1), 201);
        x.coins(2, 0);
        check.due("from 4", x.game(0) * 100 + x.game(1), 401);
        x.coins(4, 0);
        check.due("from 5", x.game(0) * 100 + x.game(1), 501);
        x.coins(8, 20);
        x.coins(7, 20);
        x.coins(5, 0);
        // 2, 2, 0, 20
        check.due("from 7", x.game(0) * 100 + x.game(1), 720);
    }
}
