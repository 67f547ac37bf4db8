/** The edges of Terms 3 and of promises 6, 7, 15 and 16: a test for each sentence that names one. */
public final class EdgeNightTest {
    private static final Check check = new Check("EdgeNightTest");
    private static final int NONE = StairRegiment.NONE;
    private static final int MIN = Integer.MIN_VALUE;
    private static final int MAX = Integer.MAX_VALUE;
    private static final String ALWAYS = "creaks 1000;";
    private static final String NEVER = "creaks 0;";

    public static void main(String[] args) {
        drawsWrap();
        drawIsModuloThousand();
        upByStrides();
        downByStrides();
        strideBeyondTheFlight();
        missingIsSaluted();
        heardOnWatchAlone();
        failedOnWatchAlone();
        notAboveZeroNoDraw();
        aboveZeroADraw();
        belowTheDraw();
        wearNinetyNine();
        wearsBehindHeardAndFailed();
        trodOneByOne();
        visitBounds();
        visitTellsCreaks();
        ordersOfThatNight();
        ordersLineByLine();
        ordersBeforeVisits();
        visitsLineByLine();
        looseInOrders();
        byHandAsInANight();
        promotedAtThree();
        promotedSinceTheLast();
        promotedThoughMissing();
        rankNineAtMost();
        rankThatWasSet();
        promotedByNothing();
        desertsAboveFive();
        desertsAboveHeard();
        desertsIfNotMissing();
        promotedThenDeserts();
        dawnOneByOne();
        dawnBehindAFullFlight();
        nightIsOneMore();
        nightsBounds();
        nightsUpTo9999();
        nightsTellCreaks();
        ordersNotAgainBeyond999();
        bookOf150();
        bookWithinAVisit();
        bookBounds();
        bookTellsRankThen();
        goesBounds();
        goesFrom500();
        goesOfAllThen();
        goesByTexts();
        goesByDawn();
        goesLeavesNothing();
        check.finish();
    }

    private static StairRegiment house(int steps, String law) {
        StairRegiment x = new StairRegiment();
        x.flight(steps, 10);
        check.whole(x, 0, law, law.length() - law.replace(";", "").length());
        return x;
    }

    private static void line(StairRegiment x, int i, int night, int what, int which, int much) {
        int[] due = {night, what, which, much};
        for (int cell = 0; cell < 4; cell++) {
            check.due("book(" + i + ", " + cell + ")", x.book(i, cell), due[cell]);
        }
    }

    private static void visits(StairRegiment x, int times) {
        for (int i = 0; i < times; i++) {
            x.visit(0, true, 9, 1);
        }
    }

    // ---- a DRAW

    private static final int[] STATES = {0, 1, -1, 2, MIN, MAX, 12345, -987654321, 0x80, 0x7fffff00, 0xfffffeff};

    private static int drawn(int state) {
        // by longs, which do not wrap here
        long next = Math.floorMod(1664525L * state + 1013904223L, 1L << 32);
        return (int) ((next >> 8) % 1000);
    }

    /** "it becomes 1664525 times itself + 1013904223 (ints, which wrap)". */
    private static void drawsWrap() {
        for (int state : STATES) {
            StairRegiment x = house(1, "creaks 500;");
            x.state(state);
            x.visit(0, true, 9, 1);
            check.due("STATE behind " + state, x.look(5), (int) (1664525L * state + 1013904223L));
        }
    }

    /** "then it is its highest 24 bits (without sign) modulo m". */
    private static void drawIsModuloThousand() {
        for (int state : STATES) {
            int drawn = drawn(state);
            for (int creaks = Math.max(1, drawn - 1); creaks <= drawn + 1; creaks++) {
                StairRegiment x = house(1, "creaks " + creaks + ";");
                x.state(state);
                check.due("creaks " + creaks + " by " + state, x.visit(0, true, 9, 1), drawn < creaks ? 1 : 0);
            }
        }
    }

    // ---- (b) who is trodden

    /** "up: STEPS stride - 1, 2 stride - 1, .."; the last one is trodden only if a stride ends on it. */
    private static void upByStrides() {
        for (int stride = 1; stride <= 5; stride++) {
            for (int steps = stride; steps <= 3 * stride; steps++) {
                StairRegiment x = house(steps, ALWAYS);
                check.due("visit", x.visit(0, true, 9, stride), steps / stride);
                for (int i = 0; i < steps / stride; i++) {
                    line(x, i, 0, 0, (i + 1) * stride - 1, 9);
                }
                check.due("no more", x.look(4), steps / stride);
            }
        }
    }

    /** "down: the highest, stride lower, .."; the highest always, the lowest only if a stride ends on it. */
    private static void downByStrides() {
        for (int stride = 1; stride <= 5; stride++) {
            for (int steps = 1; steps <= 16; steps += 3) {
                StairRegiment x = house(steps, ALWAYS);
                int trodden = (steps + stride - 1) / stride;
                check.due("visit", x.visit(0, false, 9, stride), trodden);
                for (int i = 0; i < trodden; i++) {
                    line(x, i, 0, 0, steps - 1 - i * stride, 9);
                }
                check.due("no more", x.look(4), trodden);
            }
        }
    }

    private static void strideBeyondTheFlight() {
        StairRegiment x = house(2, ALWAYS);
        check.due("up by three, two steps", x.visit(0, true, 9, 3), 0);
        check.due("nobody is trodden", x.look(4) + x.look(5), 0);
        check.due("a visit, though", x.look(10), 1);
        check.due("down by three: the highest alone", x.visit(0, false, 9, 3), 1);
        line(x, 0, 0, 0, 1, 9);
        check.due("up by two", x.visit(0, true, 9, 2), 1);
        line(x, 1, 0, 0, 1, 9);
    }

    /** "a missing one: SALUTES one more; else ..": no more than that. */
    private static void missingIsSaluted() {
        StairRegiment x = house(1, ALWAYS);
        x.order(2, 0, 0);
        check.due("visit", x.visit(0, true, 9, 1), 0);
        check.due("visit", x.visit(0, false, 8, 1), 0);
        check.due("SALUTES", x.look(2), 2);
        check.due("CREAKS", x.look(1), 0);
        check.due("no DRAW", x.look(5), 0);
        check.due("WEAR", x.of(0, 0, 1), 0);
        check.due("HEARD", x.of(0, 0, 6), 0);
        check.due("FAILED", x.of(0, 0, 7), 0);
        check.due("POST", x.of(0, 0, 4), 2);
        line(x, 0, 0, 2, 0, 0);
        line(x, 1, 0, 2, 0, 0);
        check.due("two lines", x.look(4), 2);
    }

    /** "CREAKS one more, and on watch HEARD one more". */
    private static void heardOnWatchAlone() {
        for (int post = 0; post <= 1; post++) {
            StairRegiment x = house(1, ALWAYS);
            x.order(post, 0, 0);
            check.due("visit", x.visit(0, true, 9, 1), 1);
            check.due("CREAKS on leave, too", x.look(1), 1);
            check.due("HEARD on watch", x.of(0, 0, 6), 1 - post);
            check.due("FAILED", x.of(0, 0, 7), 0);
            check.due("WEAR on leave, too", x.of(0, 0, 1), 1);
            line(x, 0, 0, 0, 0, 9);
            check.due("one line", x.look(4), 1);
        }
    }

    /** "not: on watch FAILED one more". */
    private static void failedOnWatchAlone() {
        for (int post = 0; post <= 1; post++) {
            StairRegiment x = house(1, NEVER);
            x.order(post, 0, 0);
            check.due("visit", x.visit(0, true, 9, 1), 0);
            check.due("CREAKS", x.look(1), 0);
            check.due("HEARD", x.of(0, 0, 6), 0);
            check.due("FAILED on watch", x.of(0, 0, 7), 1 - post);
            check.due("WEAR on leave, too", x.of(0, 0, 1), 1);
            check.due("a line on watch", x.look(4), 1 - post);
            check.due("what", x.book(0, 1), post == 0 ? 1 : NONE);
            check.due("weight", x.book(0, 3), post == 0 ? 9 : NONE);
        }
    }

    /** "is it above 0, a DRAW of 1000": at 0, and what is held to 0, none. */
    private static void notAboveZeroNoDraw() {
        for (String law : new String[] {NEVER, "creaks 0-1;", "creaks 0-9999;"}) {
            StairRegiment x = house(3, law);
            x.state(77);
            check.due("visit", x.visit(0, true, 9, 1), 0);
            check.due("STATE stays", x.look(5), 77);
            check.due("FAILED", x.of(0, 0, 7), 1);
        }
    }

    /** "is it above 0, a DRAW of 1000": at 1000 and on leave, too. */
    private static void aboveZeroADraw() {
        for (String law : new String[] {"creaks 1;", "creaks 999;", ALWAYS, "creaks 9999;"}) {
            for (int post = 0; post <= 1; post++) {
                StairRegiment x = house(2, law);
                x.order(post, 0, 0);
                x.visit(0, true, 9, 1);
                check.due("two DRAWS by " + law, x.look(5), 1013904223 * 1664525 + 1013904223);
            }
        }
    }

    /** "below it: CREAKS one more": not at it. The first DRAW from 0 is 563. */
    private static void belowTheDraw() {
        int[] creaks = {562, 563, 564, 1, 1000};
        int[] due = {0, 0, 1, 0, 1};
        for (int i = 0; i < creaks.length; i++) {
            StairRegiment x = house(1, "creaks " + creaks[i] + ";");
            check.due("creaks " + creaks[i], x.visit(0, true, 9, 1), due[i]);
            check.due("CREAKS", x.look(1), due[i]);
        }
        // a DRAW of 0 is below 1: the state that draws 0 modulo 1000
        int state = 0;
        while (drawn(state) != 0) {
            state++;
        }
        StairRegiment x = house(1, "creaks 1;");
        x.state(state);
        check.due("a DRAW of 0", x.visit(0, true, 9, 1), 1);
        // a DRAW of 999 is below 1000
        while (drawn(state) != 999) {
            state++;
        }
        x.state(state);
        check.whole(x, 0, ALWAYS, 1);
        check.due("a DRAW of 999", x.visit(0, true, 9, 1), 1);
        x.state(state);
        check.whole(x, 0, "creaks 999;", 1);
        check.due("a DRAW of 999", x.visit(0, true, 9, 1), 0);
    }

    /** "then WEAR as much as wears more (99 at most)". */
    private static void wearNinetyNine() {
        int[][] cases = {{98, 1, 99}, {98, 2, 99}, {98, 99, 99}, {99, 1, 99}, {99, 99, 99}, {99, 0, 99}, {0, 99, 99}, {0, 0, 0}, {50, 48, 98}};
        for (int[] c : cases) {
            StairRegiment x = house(1, "creaks 0;wears " + c[1] + ";");
            x.set(1, 0, 0, c[0]);
            x.visit(0, true, 9, 1);
            check.due("WEAR " + c[0] + " and " + c[1], x.of(0, 0, 1), c[2]);
        }
    }

    /** "then WEAR ..": behind HEARD or FAILED, by the visit's weight and stride. */
    private static void wearsBehindHeardAndFailed() {
        StairRegiment x = house(2, "creaks 1000 when number=0;creaks 0;wears 10*heard+20*failed+stride;");
        x.visit(0, true, 9, 1);
        check.due("behind HEARD", x.of(0, 0, 1), 11);
        check.due("behind FAILED", x.of(0, 1, 1), 21);
        StairRegiment y = house(1, "creaks 0;wears weight-100;");
        y.visit(0, true, 133, 1);
        check.due("weight of the visit", y.of(0, 0, 1), 33);
    }

    /** STEP after STEP: what a STEP does is done before the next one is asked. */
    private static void trodOneByOne() {
        StairRegiment x = house(3, "creaks 1000;");
        // each DRAW goes on from the last one
        int state = 0;
        for (int i = 0; i < 3; i++) {
            state = state * 1664525 + 1013904223;
        }
        x.visit(0, false, 9, 1);
        check.due("three DRAWS", x.look(5), state);
        // a second visit finds the WEAR of the first
        StairRegiment y = house(1, "creaks 1000 when wear=1;creaks 0;");
        check.due("without WEAR", y.visit(0, true, 9, 1), 0);
        check.due("with WEAR", y.visit(0, true, 9, 1), 1);
    }

    /** Promise 6: "NONE if one can't be". */
    private static void visitBounds() {
        StairRegiment x = house(2, ALWAYS);
        for (int weight : new int[] {1, 200}) {
            for (int stride : new int[] {1, 5}) {
                check.due("visit", x.visit(0, false, weight, stride), stride == 1 ? 2 : 1);
            }
        }
        int done = x.look(4);
        int[][] wrongs = {{0, 0, 1}, {0, 201, 1}, {0, -1, 1}, {0, MIN, 1}, {0, MAX, 1}, {0, 1, 0}, {0, 1, 6}, {0, 1, -1}, {0, 1, MIN}, {0, 1, MAX},
            {1, 1, 1}, {-1, 1, 1}, {6, 1, 1}, {MIN, 1, 1}, {MAX, 1, 1}};
        for (int[] w : wrongs) {
            check.due("visit up", x.visit(w[0], true, w[1], w[2]), NONE);
            check.due("visit down", x.visit(w[0], false, w[1], w[2]), NONE);
        }
        check.due("nothing is done", x.look(4), done);
        check.due("nothing is done", x.look(10), 4);
    }

    /** Promise 6: "A visit: how many creaked": those on leave, too, no others. */
    private static void visitTellsCreaks() {
        StairRegiment x = house(5, "creaks 0 when number=3;creaks 1000;");
        x.order(1, 0, 1);
        x.order(2, 0, 2);
        check.due("of five one missing, one silent", x.visit(0, true, 9, 1), 3);
        check.due("CREAKS", x.look(1), 3);
        check.due("again", x.visit(0, false, 9, 1), 3);
        check.due("CREAKS", x.look(1), 6);
        // a lowest one that creaks and a highest one that does
        check.due("by fours", x.visit(0, false, 9, 4), 2);
    }

    // ---- (a) ORDERS

    /** "Line by line of ORDERS for it": not for the NIGHT before or behind. */
    private static void ordersOfThatNight() {
        StairRegiment x = house(1, NEVER);
        check.whole(x, 1, "on 2 flight 0 step 0 carpet;", 1);
        int[] due = {0, 0, 1, 1};
        for (int night = 0; night < 4; night++) {
            x.nights(1);
            check.due("CARPET behind night " + night, x.of(0, 0, 5), due[night]);
        }
        // a NIGHT that is over does not come again, and the order is not given again
        x.order(4, 0, 0);
        x.nights(5);
        check.due("CARPET", x.of(0, 0, 5), 0);
        StairRegiment y = house(1, NEVER);
        check.whole(y, 1, "on 0 flight 0 step 0 carpet;", 1);
        y.nights(1);
        check.due("night 0", y.of(0, 0, 5), 1);
        check.whole(y, 1, "on 0 flight 0 step 0 bare;", 1);
        y.nights(1);
        check.due("too late", y.of(0, 0, 5), 1);
    }

    /** "Line by line": the later one counts, in whatever order the nights are told. */
    private static void ordersLineByLine() {
        StairRegiment x = house(2, NEVER);
        check.whole(x, 1, "on 1 flight 0 step 0 bare;on 0 flight 0 step 0 leave;on 0 flight 0 step 0 desert;on 0 flight 0 step 0 watch;"
            + "on 0 flight 0 step 0 carpet;on 0 flight 0 step 1 watch;on 0 flight 0 step 1 desert;on 0 flight 0 step 1 leave;", 8);
        x.nights(1);
        check.due("watch at last", x.of(0, 0, 4), 0);
        check.due("leave at last", x.of(0, 1, 4), 1);
        check.due("carpet", x.of(0, 0, 5), 1);
        x.nights(1);
        check.due("bare", x.of(0, 0, 5), 0);
    }

    /** (a) stands before (b). */
    private static void ordersBeforeVisits() {
        StairRegiment x = house(1, ALWAYS);
        check.whole(x, 2, "on 0 flight 0 up weight 9 stride 1;on 1 flight 0 up weight 9 stride 1;", 2);
        check.whole(x, 1, "on 0 flight 0 step 0 desert;on 1 flight 0 step 0 watch;", 2);
        check.due("saluted", x.nights(1), 0);
        check.due("SALUTES", x.look(2), 1);
        check.due("heard", x.nights(1), 1);
        check.due("HEARD", x.of(0, 0, 6), 1);
    }

    /** "(b) Line by line of VISITS for it". */
    private static void visitsLineByLine() {
        StairRegiment x = new StairRegiment();
        x.flight(2, 10);
        x.flight(1, 10);
        check.whole(x, 0, ALWAYS, 1);
        check.whole(x, 2, "on 1 flight 1 up weight 1 stride 1;on 0 flight 1 down weight 2 stride 1;on 0 flight 0 up weight 3 stride 1;"
            + "on 1 flight 0 down weight 4 stride 1;on 0 flight 1 up weight 5 stride 1;", 5);
        check.due("night 0", x.nights(1), 4);
        check.due("night 1", x.nights(1), 3);
        int[][] due = {{0, 100, 2}, {0, 0, 3}, {0, 1, 3}, {0, 100, 5}};
        for (int i = 0; i < due.length; i++) {
            line(x, i, due[i][0], 0, due[i][1], due[i][2]);
        }
        line(x, 4, 1, 0, 100, 1);
        line(x, 5, 1, 0, 1, 4);
        line(x, 6, 1, 0, 0, 4);
    }

    /** "mend: LOOSE 0; loosen: LOOSE one more (9 at most)", by ORDERS. */
    private static void looseInOrders() {
        StairRegiment x = house(2, NEVER);
        x.set(2, 0, 0, 7);
        check.whole(x, 1, "on0flight0step0loosen;".repeat(4) + "on1flight0step0mend;on2flight0step0mend;on2flight0step0loosen;", 7);
        x.nights(1);
        check.due("9 at most", x.of(0, 0, 2), 9);
        check.due("of that STEP alone", x.of(0, 1, 2), 0);
        x.nights(1);
        check.due("mended", x.of(0, 0, 2), 0);
        x.nights(1);
        check.due("mended and loosened", x.of(0, 0, 2), 1);
    }

    /** "By hand: to give an order (as in (a), to a STEP), a visit (as in (b))". */
    private static void byHandAsInANight() {
        String[] orders = {"watch", "leave", "desert", "carpet", "bare", "mend", "loosen"};
        for (int what = 0; what < orders.length; what++) {
            int w = what;
            String byText = told(w, x -> {
                Check.tell(x, 1, "on 0 flight 0 step 1 " + orders[w] + ";");
                Check.tell(x, 2, "on 0 flight 0 down weight 120 stride 1;");
            });
            String byHand = told(w, x -> {
                x.order(w, 0, 1);
                x.visit(0, false, 120, 1);
            });
            check.due("by hand as by texts: " + orders[w], byHand.equals(byText), true);
        }
    }

    private static String told(int what, java.util.function.Consumer<StairRegiment> way) {
        StairRegiment x = house(3, "creaks 400+loose*50-carpet*200;wears 3;");
        x.set(2, 0, 1, 4);
        x.order(what == 0 ? 1 : 0, 0, 1);
        x.order(what == 4 ? 3 : 4, 0, 1);
        x.state(what * 1000);
        way.accept(x);
        x.nights(1);
        StringBuilder seen = new StringBuilder();
        for (int step = 0; step < 3; step++) {
            for (int cell = 0; cell <= 7; cell++) {
                seen.append(x.of(0, step, cell)).append(' ');
            }
        }
        for (int i = 0; i <= 4; i++) {
            for (int cell = 0; cell < 4; cell++) {
                seen.append(x.book(i, cell)).append(' ');
            }
        }
        return seen.append(x.look(1)).append(' ').append(x.look(2)).append(' ').append(x.look(5)).toString();
    }

    // ---- (c) dawn

    /** "whose HEARD is 3 at least above what it was at his last promotion (0 at first)". */
    private static void promotedAtThree() {
        for (int heard = 0; heard <= 5; heard++) {
            StairRegiment x = house(1, ALWAYS);
            visits(x, heard);
            check.due("not before dawn", x.of(0, 0, 3), 0);
            x.nights(1);
            check.due("RANK behind " + heard, x.of(0, 0, 3), heard >= 3 ? 1 : 0);
            check.due("lines", x.look(4), heard + (heard >= 3 ? 1 : 0));
            if (heard >= 3) {
                line(x, heard, 0, 3, 0, 1);
            }
        }
    }

    /** ".. above what it was at his last promotion": once a dawn, and counted from there. */
    private static void promotedSinceTheLast() {
        StairRegiment x = house(1, ALWAYS);
        visits(x, 7);
        x.nights(1);
        check.due("once", x.of(0, 0, 3), 1);
        x.nights(3);
        check.due("not again for the same", x.of(0, 0, 3), 1);
        visits(x, 2);
        x.nights(1);
        check.due("9 is 2 above 7", x.of(0, 0, 3), 1);
        visits(x, 1);
        x.nights(1);
        check.due("10 is 3 above 7", x.of(0, 0, 3), 2);
        visits(x, 3);
        x.nights(1);
        check.due("13 is 3 above 10", x.of(0, 0, 3), 3);
    }

    /** "(missing ones, too)". */
    private static void promotedThoughMissing() {
        for (int post = 0; post <= 2; post++) {
            StairRegiment x = house(1, ALWAYS);
            visits(x, 3);
            x.order(post, 0, 0);
            x.nights(1);
            check.due("promoted at POST " + post, x.of(0, 0, 3), 1);
            check.due("POST stays", x.of(0, 0, 4), post);
        }
    }

    /** "rises is asked: RANK so much more (9 at most)". */
    private static void rankNineAtMost() {
        int[][] cases = {{0, 9, 9}, {8, 1, 9}, {8, 2, 9}, {9, 1, 9}, {9, 9, 9}, {9, 0, 9}, {4, 4, 8}, {0, 10, 9}};
        for (int[] c : cases) {
            StairRegiment x = house(1, "creaks 1000;rises " + c[1] + ";");
            x.set(3, 0, 0, c[0]);
            visits(x, 3);
            x.nights(1);
            check.due("RANK " + c[0] + " and " + c[1], x.of(0, 0, 3), c[2]);
            line(x, 3, 0, 3, 0, c[2]);
        }
    }

    /** "rises is asked": by the RANK, the HEARD and the NIGHT of that dawn. */
    private static void rankThatWasSet() {
        StairRegiment x = house(1, "creaks 1000;rises rank+heard+night;");
        x.nights(1);
        x.set(3, 0, 0, 2);
        visits(x, 3);
        x.nights(1);
        check.due("2 and 2 and 3 and 1", x.of(0, 0, 3), 8);
    }

    /** rises may be 0: he is promoted, though RANK stays. */
    private static void promotedByNothing() {
        StairRegiment x = house(1, "creaks 1000;rises 0;");
        visits(x, 3);
        x.nights(1);
        line(x, 3, 0, 3, 0, 0);
        check.whole(x, 0, "creaks 1000;rises 5;", 2);
        visits(x, 2);
        x.nights(1);
        check.due("counted from then on", x.of(0, 0, 3), 0);
        visits(x, 1);
        x.nights(1);
        check.due("3 above", x.of(0, 0, 3), 5);
    }

    /** "Whose FAILED is above 5 ..". */
    private static void desertsAboveFive() {
        for (int failed = 4; failed <= 7; failed++) {
            StairRegiment x = house(1, NEVER);
            visits(x, failed);
            check.due("not before dawn", x.of(0, 0, 4), 0);
            x.nights(1);
            check.due("POST behind " + failed, x.of(0, 0, 4), failed > 5 ? 2 : 0);
            check.due("lines", x.look(4), failed + (failed > 5 ? 1 : 0));
            if (failed > 5) {
                line(x, failed, 0, 4, 0, failed);
            }
        }
    }

    /** ".. and above HEARD". */
    private static void desertsAboveHeard() {
        for (int heard = 5; heard <= 9; heard++) {
            StairRegiment x = house(1, ALWAYS);
            visits(x, heard);
            check.whole(x, 0, NEVER, 1);
            visits(x, 7);
            x.nights(1);
            check.due("7 failed, heard " + heard, x.of(0, 0, 4), heard < 7 ? 2 : 0);
            check.due("FAILED", x.of(0, 0, 7), 7);
            check.due("HEARD", x.of(0, 0, 6), heard);
        }
    }

    /** "deserts (POST 2), if he is not missing": on leave he does; called back, he deserts again. */
    private static void desertsIfNotMissing() {
        for (int post = 0; post <= 2; post++) {
            StairRegiment x = house(1, NEVER);
            visits(x, 6);
            x.order(post, 0, 0);
            x.nights(1);
            check.due("missing", x.of(0, 0, 4), 2);
            check.due("a line, if he was not", x.look(4), post == 2 ? 6 : 7);
            x.nights(1);
            check.due("not again", x.look(4), post == 2 ? 6 : 7);
            x.order(0, 0, 0);
            x.nights(1);
            check.due("again, called back", x.look(4), post == 2 ? 7 : 8);
            check.due("missing", x.of(0, 0, 4), 2);
        }
    }

    private static void promotedThenDeserts() {
        StairRegiment x = house(1, ALWAYS);
        visits(x, 3);
        check.whole(x, 0, NEVER, 1);
        visits(x, 6);
        x.nights(1);
        line(x, 9, 0, 3, 0, 1);
        line(x, 10, 0, 4, 0, 6);
        check.due("lines", x.look(4), 11);
    }

    /** "FLIGHT by FLIGHT, STEP by STEP". */
    private static void dawnOneByOne() {
        StairRegiment x = new StairRegiment();
        x.flight(2, 10);
        x.flight(1, 10);
        check.whole(x, 0, "creaks 0 when number=1;creaks 1000;", 2);
        for (int i = 0; i < 6; i++) {
            x.visit(1, true, 9, 1);
            x.visit(0, false, 9, 1);
        }
        x.nights(1);
        line(x, 18, 0, 3, 0, 1);
        line(x, 19, 0, 4, 1, 6);
        line(x, 20, 0, 3, 100, 1);
        check.due("lines", x.look(4), 21);
    }

    /** Behind the highest of 16 STEPS comes the lowest of the next FLIGHT, by his own number. */
    private static void dawnBehindAFullFlight() {
        StairRegiment x = house(16, "creaks 1000 when weight=9;creaks 0;rises 1+number;");
        x.flight(1, 10);
        for (int i = 0; i < 9; i++) {
            x.visit(1, true, i < 3 ? 9 : 8, 1);
        }
        x.nights(1);
        line(x, 9, 0, 3, 100, 1);
        line(x, 10, 0, 4, 100, 6);
        check.due("lines", x.look(4), 11);
        check.due("RANK", x.of(1, 0, 3), 1);
    }

    // ---- NIGHT and promise 7

    /** "NIGHT is one more.": at last, so that all of a NIGHT has its number. */
    private static void nightIsOneMore() {
        StairRegiment x = house(1, "creaks night*1000;");
        check.whole(x, 2, "on 0 flight 0 up weight 9 stride 1;on 1 flight 0 up weight 9 stride 1;", 2);
        check.due("night 0", x.nights(1), 0);
        check.due("night", x.look(3), 1);
        check.due("night 1", x.nights(1), 1);
        check.due("night", x.look(3), 2);
        line(x, 0, 0, 1, 0, 9);
        line(x, 1, 1, 0, 0, 9);
        x.visit(0, true, 9, 1);
        line(x, 2, 2, 0, 0, 9);
        check.due("a visit by hand is no NIGHT", x.look(3), 2);
        x.order(0, 0, 0);
        check.due("nor is an order", x.look(3), 2);
    }

    /** Promise 7: "NIGHTS go by (1 .. 60)". */
    private static void nightsBounds() {
        StairRegiment x = house(1, ALWAYS);
        for (int n : new int[] {0, -1, 61, 62, MIN, MAX}) {
            check.due("nights(" + n + ")", x.nights(n), NONE);
            check.due("nothing is done", x.look(3) + x.look(10), 0);
        }
        check.due("nights(1)", x.nights(1), 0);
        check.due("night", x.look(3), 1);
        check.due("nights(60)", x.nights(60), 0);
        check.due("night", x.look(3), 61);
        check.due("nights(59)", x.nights(59), 0);
        check.due("night", x.look(3), 120);
    }

    /** Promise 7: "NONE, and nothing is done, if .. NIGHT would be above 9999"; "NIGHT 0 .. 9999". */
    private static void nightsUpTo9999() {
        for (int n : new int[] {40, 41, 60}) {
            StairRegiment x = house(1, ALWAYS);
            for (int i = 0; i < 166; i++) {
                x.nights(60);
            }
            check.due("nights(" + n + ") from 9960", x.nights(n), NONE);
            check.due("nothing is done", x.look(3), 9960);
            check.due("nothing is done", x.look(10), 6);
        }
        for (int last : new int[] {1, 2, 38}) {
            StairRegiment x = house(1, ALWAYS);
            for (int i = 0; i < 166; i++) {
                x.nights(60);
            }
            x.nights(39 - last);
            check.due("one too many", x.nights(last + 1), NONE);
            check.due("nothing is done", x.look(3), 9999 - last);
            check.due("just 9999", x.nights(last), 0);
            check.due("NIGHT", x.look(3), 9999);
            check.due("no more", x.nights(1), NONE);
            check.due("NIGHT", x.look(3), 9999);
            check.due("a visit still can be", x.visit(0, true, 9, 1), 1);
            line(x, 0, 9999, 0, 0, 9);
            check.due("the visit is undone", x.undo(), true);
            check.due("the last NIGHT is undone", x.undo(), true);
            check.due("NIGHT", x.look(3), 9998);
            check.due("it may go by again", x.nights(1), 0);
        }
    }

    /** Promise 7: "how many creaked": in all of these NIGHTS. */
    private static void nightsTellCreaks() {
        StairRegiment x = house(2, ALWAYS);
        check.whole(x, 2, "on 0 flight 0 up weight 9 stride 1;on 2 flight 0 up weight 9 stride 2;on 59 flight 0 up weight 9 stride 1;", 3);
        x.visit(0, true, 9, 1);
        check.due("of all sixty", x.nights(60), 5);
        check.due("CREAKS", x.look(1), 7);
        check.due("none is left", x.nights(60), 0);
    }

    /** "(NIGHT 0 .. 999 ..)": at NIGHT 1000 and later no line is for it. */
    private static void ordersNotAgainBeyond999() {
        StairRegiment x = house(1, ALWAYS);
        check.whole(x, 1, "on 0 flight 0 step 0 leave;on 999 flight 0 step 0 carpet;on 100 flight 0 step 0 watch;", 3);
        check.whole(x, 2, "on 0 flight 0 up weight 9 stride 1;on 999 flight 0 up weight 9 stride 1;", 2);
        for (int i = 0; i < 16; i++) {
            x.nights(60);
        }
        x.nights(39);
        check.due("NIGHT", x.look(3), 999);
        check.due("night 0 came", x.look(1), 1);
        check.due("not yet", x.of(0, 0, 5), 0);
        check.due("night 999", x.nights(1), 1);
        check.due("CARPET", x.of(0, 0, 5), 1);
        check.due("on watch since 100", x.of(0, 0, 6), 1);
        for (int i = 0; i < 20; i++) {
            check.due("none comes again", x.nights(60), 0);
        }
        check.due("POST", x.of(0, 0, 4), 0);
    }

    // ---- THE BOOK and promise 15

    /** "THE BOOK (150 lines; no more then)". */
    private static void bookOf150() {
        StairRegiment x = house(15, "creaks 0 when number=14;creaks 1000;");
        for (int i = 0; i < 10; i++) {
            check.due("visit", x.visit(0, true, 100 + i, 1), 14);
        }
        check.due("just 150", x.look(4), 150);
        line(x, 149, 0, 1, 14, 109);
        check.due("no line 150", x.book(150, 0), NONE);
        check.due("all goes on", x.visit(0, true, 50, 1), 14);
        x.order(2, 0, 0);
        x.visit(0, true, 50, 1);
        check.due("SALUTES", x.look(2), 1);
        x.nights(1);
        check.due("promoted", x.of(0, 1, 3), 1);
        check.due("deserted", x.of(0, 14, 4), 2);
        check.due("150 lines", x.look(4), 150);
        check.due("no line 150", x.book(150, 0), NONE);
        line(x, 0, 0, 0, 0, 100);
        line(x, 149, 0, 1, 14, 109);
        check.due("CREAKS", x.look(1), 14 * 11 + 13);
    }

    /** "no more then": in the midst of a visit, too. */
    private static void bookWithinAVisit() {
        StairRegiment x = house(16, ALWAYS);
        for (int i = 0; i < 9; i++) {
            x.visit(0, true, 9, 1);
        }
        check.due("144", x.look(4), 144);
        check.due("all sixteen creak", x.visit(0, false, 8, 1), 16);
        check.due("six of them are written", x.look(4), 150);
        line(x, 144, 0, 0, 15, 8);
        line(x, 149, 0, 0, 10, 8);
        check.due("heard all the same", x.of(0, 0, 6), 10);
    }

    /** Promise 15: "NONE if there is none such, or another what". */
    private static void bookBounds() {
        StairRegiment x = house(2, ALWAYS);
        check.due("no line yet", x.book(0, 0), NONE);
        x.visit(0, true, 9, 1);
        for (int what = 0; what < 4; what++) {
            check.due("a line", x.book(1, what) != NONE, true);
            for (int i : new int[] {2, 3, 149, 150, -1, MIN, MAX}) {
                check.due("book(" + i + ", " + what + ")", x.book(i, what), NONE);
            }
        }
        for (int what : new int[] {4, 5, -1, MIN, MAX}) {
            check.due("book(0, " + what + ")", x.book(0, what), NONE);
            check.due("book(1, " + what + ")", x.book(1, what), NONE);
        }
    }

    /** "how much (.. 3: RANK then; 4: FAILED)", "which (100 times FLIGHT and STEP)". */
    private static void bookTellsRankThen() {
        StairRegiment x = new StairRegiment();
        for (int f = 0; f < 6; f++) {
            x.flight(16, 10);
        }
        check.whole(x, 0, "creaks 1000 when number=15;creaks 0;rises 4;", 3);
        for (int i = 0; i < 3; i++) {
            x.visit(5, false, 200, 5);
        }
        x.nights(1);
        line(x, 0, 0, 0, 515, 200);
        line(x, 1, 0, 1, 510, 200);
        line(x, 3, 0, 1, 500, 200);
        line(x, 12, 0, 3, 515, 4);
        x.set(3, 5, 15, 0);
        line(x, 12, 0, 3, 515, 4);
    }

    // ---- promise 16

    /** Promise 16: "GOES for n (1 .. 60) NIGHTS", "NONE if one can't be, or another what". */
    private static void goesBounds() {
        StairRegiment x = house(1, ALWAYS);
        check.whole(x, 2, "on 0 flight 0 up weight 9 stride 1;on 59 flight 0 up weight 9 stride 1;on 60 flight 0 up weight 9 stride 1;", 3);
        for (int what = 0; what < 4; what++) {
            for (int n : new int[] {0, -1, 61, MIN, MAX}) {
                check.due("goes(" + n + ", " + what + ")", x.goes(n, what), NONE);
            }
        }
        for (int what : new int[] {-1, 4, 5, MIN, MAX}) {
            check.due("goes(1, " + what + ")", x.goes(1, what), NONE);
            check.due("goes(60, " + what + ")", x.goes(60, what), NONE);
        }
        check.due("one NIGHT", x.goes(1, 0), 1);
        check.due("59 NIGHTS", x.goes(59, 0), 1);
        check.due("sixty NIGHTS", x.goes(60, 0), 2);
    }

    /** "no DRAWS: it creaks, if creaks is 500 at least". */
    private static void goesFrom500() {
        int[] creaks = {0, 1, 499, 500, 501, 1000};
        for (int c : creaks) {
            // a STATE by which a DRAW would tell the other thing
            for (int state : new int[] {0, 5, -3}) {
                StairRegiment x = house(1, "creaks " + c + ";");
                check.whole(x, 2, "on 0 flight 0 up weight 9 stride 1;", 1);
                x.state(state);
                check.due("HEARD by " + c, x.goes(1, 0), c >= 500 ? 1 : 0);
                check.due("FAILED by " + c, x.goes(1, 1), c >= 500 ? 0 : 1);
                check.due("STATE", x.look(5), state);
            }
        }
    }

    /** "HEARD, FAILED, SALUTES, missing of all then": of all FLIGHTS, with those that were before. */
    private static void goesOfAllThen() {
        StairRegiment x = new StairRegiment();
        x.flight(1, 10);
        x.flight(16, 10);
        x.flight(2, 10);
        check.whole(x, 0, "creaks 1000 when number=1;creaks 0;", 2);
        x.visit(2, true, 9, 1);
        x.visit(0, true, 9, 1);
        x.order(2, 1, 15);
        x.visit(1, false, 9, 5);
        check.due("HEARD", x.goes(1, 0), 1);
        check.due("FAILED", x.goes(1, 1), 5);
        check.due("SALUTES", x.goes(1, 2), 1);
        check.due("missing", x.goes(1, 3), 1);
        check.whole(x, 2, "on 0 flight 1 up weight 9 stride 1;", 1);
        check.due("HEARD then", x.goes(1, 0), 2);
        check.due("FAILED then", x.goes(1, 1), 5 + 14);
        check.due("SALUTES then", x.goes(1, 2), 2);
    }

    /** GOES gives ORDERS, too, line by line, before the VISITS of that NIGHT; and counts from the NIGHT that is. */
    private static void goesByTexts() {
        StairRegiment x = house(2, ALWAYS);
        x.nights(5);
        check.whole(x, 1, "on 4 flight 0 step 0 desert;on 6 flight 0 step 1 desert;on 7 flight 0 step 1 leave;", 3);
        check.whole(x, 2, "on 4 flight 0 up weight 9 stride 1;on 5 flight 0 up weight 9 stride 1;on 6 flight 0 up weight 9 stride 1;"
            + "on 7 flight 0 up weight 9 stride 1;", 4);
        int[][] due = {{2, 0, 0, 0}, {3, 0, 1, 1}, {4, 0, 1, 0}, {4, 0, 1, 0}};
        for (int n = 1; n <= 4; n++) {
            for (int what = 0; what < 4; what++) {
                check.due("goes(" + n + ", " + what + ")", x.goes(n, what), due[n - 1][what]);
            }
        }
    }

    /** GOES has dawns, too: promotions, which THE LAW may ask for, and deserters. */
    private static void goesByDawn() {
        StairRegiment x = house(1, "creaks 500-rank*100;rises 1;");
        StringBuilder text = new StringBuilder();
        for (int night = 0; night < 10; night++) {
            text.append("on").append(night).append("flight0up weight1stride1;");
        }
        check.whole(x, 2, text.toString(), 10);
        check.due("heard thrice", x.goes(3, 0), 3);
        check.due("promoted: less likely", x.goes(4, 1), 1);
        check.due("failed six times", x.goes(9, 1), 6);
        check.due("and deserts", x.goes(9, 3), 1);
        check.due("not before", x.goes(8, 3), 0);
        check.due("saluted", x.goes(10, 2), 1);
        check.due("HEARD stays", x.goes(60, 0), 3);
        check.due("WEAR goes on in thought alone", x.of(0, 0, 1), 0);
    }

    /** "IN THOUGHT (nothing of it stays ..)". */
    private static void goesLeavesNothing() {
        String was = Seen.all(EdgeNightTest::busy);
        String is = Seen.all(x -> {
            busy(x);
            for (int what = 0; what < 4; what++) {
                x.goes(60, what);
            }
        });
        check.due("nothing stays", is.equals(was), true);
    }

    private static void busy(StairRegiment x) {
        x.flight(3, 10);
        x.flight(2, 10);
        Check.tell(x, 0, "creaks 300+number*200;wears 2;");
        Check.tell(x, 1, "on 1 flight 0 step 1 desert;on 2 flight 1 step 0 carpet;");
        Check.tell(x, 2, "on 1 flight 0 up weight 9 stride 1;on 2 flight 1 up weight 9 stride 1;on 3 flight 0 down weight 9 stride 2;");
        x.nights(1);
        x.visit(0, true, 9, 1);
        x.order(1, 0, 0);
    }
}
