/** The edges of Terms 1 and of promises 1 to 5, 12 to 14 and 43: a test for each sentence that names one. */
public final class EdgeStairsTest {
    private static final Check check = new Check("EdgeStairsTest");
    private static final int NONE = StairRegiment.NONE;
    private static final int MIN = Integer.MIN_VALUE;
    private static final int MAX = Integer.MAX_VALUE;

    public static void main(String[] args) {
        flightsAsTheyCome();
        fewestAndMostSteps();
        lowestAndHighestSteps();
        traitsAtFirst();
        heightOfAllAsTold();
        nothingInANewObject();
        emptyTextsAtFirst();
        stateIsToldAndWas();
        setBounds();
        setIsOfOneStep();
        ordersByNumber();
        loosenNineAtMost();
        ofEachStepAlone();
        ofHasTenWhats();
        doorsNamed();
        asksByBounds();
        asksOfTheUnwrittenLaw();
        lookHasElevenWhats();
        stateAsItIs();
        check.finish();
    }

    // ---- Terms 1

    /** "FLIGHTS 0 .. 5 as they come"; promise 3: "the number; NONE if .. there are six". */
    private static void flightsAsTheyCome() {
        StairRegiment x = new StairRegiment();
        for (int f = 0; f < 6; f++) {
            check.due("flight before " + f + " comes", x.of(f, 0, 0), NONE);
            check.due("flight " + f, x.flight(1 + f, 10), f);
            check.due("flights", x.look(0), f + 1);
        }
        check.due("a seventh", x.flight(1, 10), NONE);
        check.due("a seventh again", x.flight(16, 40), NONE);
        check.due("flights", x.look(0), 6);
        check.due("of a seventh", x.of(6, 0, 0), NONE);
        for (int f = 0; f < 6; f++) {
            check.due("the six are as they were", x.of(f, f, 0), 10);
            check.due("the six are as they were", x.of(f, f + 1, 0), NONE);
        }
        // a number that was refused does not count as one that came
        StairRegiment y = new StairRegiment();
        check.due("none of 17", y.flight(17, 10), NONE);
        check.due("the first", y.flight(16, 10), 0);
        check.due("none of height 41", y.flight(16, 41), NONE);
        check.due("the second", y.flight(16, 10), 1);
    }

    /** "each of 1 .. 16 STEPS (0 the lowest)". */
    private static void fewestAndMostSteps() {
        for (int steps = 1; steps <= 16; steps++) {
            StairRegiment x = new StairRegiment();
            check.due("flight of " + steps, x.flight(steps, 10), 0);
            check.due("lowest", x.of(0, 0, 0), 10);
            check.due("highest", x.of(0, steps - 1, 0), 10);
            check.due("above the highest", x.of(0, steps, 0), NONE);
            check.due("below the lowest", x.of(0, -1, 0), NONE);
        }
        for (int steps : new int[] {0, -1, 17, 18, MIN, MAX}) {
            StairRegiment x = new StairRegiment();
            check.due("flight of " + steps, x.flight(steps, 10), NONE);
            check.due("none came", x.look(0), 0);
            check.due("none came", x.of(0, 0, 0), NONE);
        }
    }

    /** "HEIGHT 5 .. 40". */
    private static void lowestAndHighestSteps() {
        for (int height : new int[] {5, 6, 39, 40}) {
            StairRegiment x = new StairRegiment();
            check.due("height " + height, x.flight(2, height), 0);
            check.due("height " + height, x.of(0, 1, 0), height);
        }
        for (int height : new int[] {4, 41, 0, -1, -5, 100, MIN, MAX}) {
            StairRegiment x = new StairRegiment();
            check.due("height " + height, x.flight(2, height), NONE);
            check.due("none came", x.look(0), 0);
        }
    }

    /** WEAR, LOOSE, "RANK 0 .. 9 (0 at first), POST .. (0 at first), CARPET 0, 1 (0 at first), HEARD, FAILED (.. 0 at first)". */
    private static void traitsAtFirst() {
        StairRegiment x = new StairRegiment();
        x.flight(16, 40);
        x.flight(1, 5);
        for (int what = 1; what <= 7; what++) {
            for (int step = 0; step < 16; step++) {
                check.due("of(0, " + step + ", " + what + ") at first", x.of(0, step, what), 0);
            }
            check.due("of(1, 0, " + what + ") at first", x.of(1, 0, what), 0);
        }
    }

    /** "HEIGHT .. (of all at first as told)". */
    private static void heightOfAllAsTold() {
        StairRegiment x = new StairRegiment();
        x.flight(16, 5);
        x.flight(16, 40);
        for (int step = 0; step < 16; step++) {
            check.due("height", x.of(0, step, 0), 5);
            check.due("height", x.of(1, step, 0), 40);
        }
        x.set(0, 0, 0, 17);
        x.flight(16, 6);
        check.due("what was set stays", x.of(0, 0, 0), 17);
        check.due("height", x.of(2, 0, 0), 6);
    }

    /** Promise 1: "A house without stairs"; "SALUTES, CREAKS (.. 0 at first), NIGHT .. (0 at first)", "STATE (.. 0 at first)". */
    private static void nothingInANewObject() {
        StairRegiment x = new StairRegiment();
        for (int what = 0; what <= 10; what++) {
            check.due("look(" + what + ") of a new object", x.look(what), 0);
        }
        check.due("no line of the book", x.book(0, 0), NONE);
        check.due("nothing to undo", x.undo(), false);
        check.due("no image", x.image(false), false);
        check.due("the tape has nothing", x.end(1), false);
        check.due("the tape has nothing", x.end(0), true);
        check.due("no fault", x.fault(0), 0);
        check.due("no place of a fault", x.fault(1), NONE);
        for (int what = 0; what < 4; what++) {
            check.due("goes " + what, x.goes(60, what), 0);
        }
        check.due("nights go by without stairs", x.nights(60), 0);
        check.due("night", x.look(3), 60);
    }

    /** Terms 2: "TEXTS (empty at first)". */
    private static void emptyTextsAtFirst() {
        StairRegiment x = new StairRegiment();
        for (int k = 0; k <= 3; k++) {
            check.due("lines of text " + k, x.look(6 + k), 0);
        }
        x.flight(1, 10);
        x.nights(3);
        check.due("nobody came, nobody was heard", x.look(4), 0);
        check.due("no order was given", x.of(0, 0, 4) + x.of(0, 0, 5) + x.of(0, 0, 2), 0);
        check.due("no door", x.of(0, 0, 9), 0);
    }

    // ---- promises 2, 4, 5

    /** Promise 2: "STATE is told: what it was"; an int, any. */
    private static void stateIsToldAndWas() {
        StairRegiment x = new StairRegiment();
        int was = 0;
        for (int v : new int[] {1, -1, MAX, MIN, 0, NONE, 5}) {
            check.due("what it was", x.state(v), was);
            check.due("as it is", x.look(5), v);
            was = v;
        }
    }

    /** Promise 4: "What 0 HEIGHT, 1 WEAR, 2 LOOSE, 3 RANK of a STEP: true; false if one can't be, or another what". */
    private static void setBounds() {
        int[][] bounds = {{5, 40}, {0, 99}, {0, 9}, {0, 9}};
        for (int what = 0; what <= 3; what++) {
            StairRegiment x = new StairRegiment();
            x.flight(2, 10);
            int low = bounds[what][0];
            int high = bounds[what][1];
            check.due("set " + what + " least", x.set(what, 0, 1, low), true);
            check.due("of " + what, x.of(0, 1, what), low);
            check.due("set " + what + " below", x.set(what, 0, 1, low - 1), false);
            check.due("as it was", x.of(0, 1, what), low);
            check.due("set " + what + " most", x.set(what, 0, 1, high), true);
            check.due("of " + what, x.of(0, 1, what), high);
            check.due("set " + what + " above", x.set(what, 0, 1, high + 1), false);
            check.due("as it was", x.of(0, 1, what), high);
            check.due("set MIN", x.set(what, 0, 1, MIN), false);
            check.due("set MAX", x.set(what, 0, 1, MAX), false);
            check.due("as it was", x.of(0, 1, what), high);
            check.due("set of no step", x.set(what, 0, 2, low), false);
            check.due("set of step -1", x.set(what, 0, -1, low), false);
            check.due("set of no flight", x.set(what, 1, 0, low), false);
            check.due("set of flight -1", x.set(what, -1, 0, low), false);
        }
        StairRegiment x = new StairRegiment();
        x.flight(2, 10);
        for (int what : new int[] {-1, 4, 5, 6, 7, 8, 9, MIN, MAX}) {
            for (int v : new int[] {0, 1, 5}) {
                check.due("set what " + what, x.set(what, 0, 0, v), false);
            }
        }
    }

    /** Promise 4: ".. of a STEP". */
    private static void setIsOfOneStep() {
        StairRegiment x = new StairRegiment();
        x.flight(16, 10);
        x.flight(16, 10);
        for (int what = 0; what <= 3; what++) {
            x.set(what, 0, 15, 9);
            x.set(what, 1, 0, 8);
        }
        for (int what = 0; what <= 3; what++) {
            check.due("the highest of the first", x.of(0, 15, what), 9);
            check.due("the lowest of the second", x.of(1, 0, what), 8);
            check.due("one below", x.of(0, 14, what), what == 0 ? 10 : 0);
            check.due("one above", x.of(1, 1, what), what == 0 ? 10 : 0);
        }
    }

    /** Promise 5: "An order (0 watch, 1 leave, 2 desert, 3 carpet, 4 bare, 5 mend, 6 loosen): true; false if one can't be". */
    private static void ordersByNumber() {
        for (int what = 0; what <= 6; what++) {
            StairRegiment x = new StairRegiment();
            x.flight(3, 10);
            x.set(2, 0, 1, 4);
            x.order(what == 0 ? 1 : 0, 0, 1);
            x.order(what == 4 ? 3 : 4, 0, 1);
            check.due("order " + what, x.order(what, 0, 1), true);
            check.due("post", x.of(0, 1, 4), what <= 2 ? what : 0);
            check.due("carpet", x.of(0, 1, 5), what == 3 ? 1 : 0);
            check.due("loose", x.of(0, 1, 2), what == 5 ? 0 : what == 6 ? 5 : 4);
            check.due("one below", x.of(0, 0, 4) + x.of(0, 0, 5) + x.of(0, 0, 2), 0);
            check.due("one above", x.of(0, 2, 4) + x.of(0, 2, 5) + x.of(0, 2, 2), 0);
            check.due("order " + what + " of no step", x.order(what, 0, 3), false);
            check.due("order " + what + " of step -1", x.order(what, 0, -1), false);
            check.due("order " + what + " of no flight", x.order(what, 1, 0), false);
            check.due("order " + what + " of flight -1", x.order(what, -1, 0), false);
        }
        StairRegiment x = new StairRegiment();
        x.flight(3, 10);
        for (int what : new int[] {-1, 7, 8, MIN, MAX}) {
            check.due("order " + what, x.order(what, 0, 0), false);
        }
        check.due("nothing was done", x.look(10), 0);
        // an order that changes nothing is an order, too
        check.due("watch on watch", x.order(0, 0, 0), true);
        check.due("a deed", x.look(10), 1);
    }

    /** Terms 3 (a): "loosen: LOOSE one more (9 at most)", "mend: LOOSE 0". */
    private static void loosenNineAtMost() {
        StairRegiment x = new StairRegiment();
        x.flight(1, 10);
        x.set(2, 0, 0, 8);
        check.due("loosen to 9", x.order(6, 0, 0), true);
        check.due("loose", x.of(0, 0, 2), 9);
        check.due("loosen at 9", x.order(6, 0, 0), true);
        check.due("9 at most", x.of(0, 0, 2), 9);
        check.due("mend", x.order(5, 0, 0), true);
        check.due("mended", x.of(0, 0, 2), 0);
        check.due("mend at 0", x.order(5, 0, 0), true);
        check.due("mended", x.of(0, 0, 2), 0);
    }

    // ---- promises 12 to 14

    /** Promise 12: "NONE if there is none such". */
    private static void ofEachStepAlone() {
        StairRegiment x = new StairRegiment();
        x.flight(3, 10);
        x.flight(16, 10);
        for (int what = 0; what <= 9; what++) {
            check.due("of(0, 2, " + what + ") is", x.of(0, 2, what) != NONE, true);
            check.due("of(0, 3, " + what + ")", x.of(0, 3, what), NONE);
            check.due("of(0, -1, " + what + ")", x.of(0, -1, what), NONE);
            check.due("of(1, 15, " + what + ") is", x.of(1, 15, what) != NONE, true);
            check.due("of(1, 16, " + what + ")", x.of(1, 16, what), NONE);
            check.due("of(2, 0, " + what + ")", x.of(2, 0, what), NONE);
            check.due("of(-1, 0, " + what + ")", x.of(-1, 0, what), NONE);
            check.due("of(MAX, MAX, " + what + ")", x.of(MAX, MAX, what), NONE);
            check.due("of(MIN, MIN, " + what + ")", x.of(MIN, MIN, what), NONE);
        }
    }

    /** Promise 12: "or another what". */
    private static void ofHasTenWhats() {
        StairRegiment x = new StairRegiment();
        x.flight(3, 10);
        for (int what : new int[] {-1, 10, 11, MIN, MAX}) {
            check.due("of what " + what, x.of(0, 0, what), NONE);
        }
    }

    /** Promise 12: "9 how many lines of DOORS name it": none, one, all sixteen, on either side. */
    private static void doorsNamed() {
        StairRegiment x = new StairRegiment();
        x.flight(2, 10);
        x.flight(2, 10);
        check.due("none", x.of(0, 0, 9), 0);
        check.whole(x, 3, "flight0step0door1step0;".repeat(15) + "flight1step1door0step0;", 16);
        check.due("all sixteen", x.of(0, 0, 9), 16);
        check.due("fifteen", x.of(1, 0, 9), 15);
        check.due("one", x.of(1, 1, 9), 1);
        check.due("none", x.of(0, 1, 9), 0);
        check.whole(x, 3, "", 0);
        check.due("none then", x.of(0, 0, 9), 0);
    }

    /** Promises 13, 14: "by weight (1 .. 200), stride (1 .. 5). NONE if one can't be". */
    private static void asksByBounds() {
        StairRegiment x = new StairRegiment();
        x.flight(3, 10);
        Check.tell(x, 0, "creaks weight+stride;wears stride;");
        for (int weight : new int[] {1, 2, 199, 200}) {
            for (int stride = 1; stride <= 5; stride++) {
                check.due("creaks", x.creaks(0, 2, weight, stride), weight + stride);
                check.due("wears", x.wears(0, 2, weight, stride), stride);
            }
        }
        int[][] wrongs = {{0, 0, 0, 1}, {0, 0, 201, 1}, {0, 0, -1, 1}, {0, 0, MIN, 1}, {0, 0, MAX, 1}, {0, 0, 1, 0}, {0, 0, 1, 6}, {0, 0, 1, -1},
            {0, 0, 1, MIN}, {0, 0, 1, MAX}, {0, 3, 1, 1}, {0, -1, 1, 1}, {1, 0, 1, 1}, {-1, 0, 1, 1}, {6, 0, 1, 1}, {MAX, MAX, 1, 1}};
        for (int[] w : wrongs) {
            String at = w[0] + " " + w[1] + " " + w[2] + " " + w[3];
            check.due("creaks " + at, x.creaks(w[0], w[1], w[2], w[3]), NONE);
            check.due("wears " + at, x.wears(w[0], w[1], w[2], w[3]), NONE);
        }
    }

    /** Terms 2: "none: creaks: weight and 5 times wear and 50 times loose less 300 times carpet, wears: 1, rises: 1", held. */
    private static void asksOfTheUnwrittenLaw() {
        StairRegiment x = new StairRegiment();
        x.flight(2, 10);
        check.due("the least", x.creaks(0, 0, 1, 5), 1);
        check.due("weight alone", x.creaks(0, 0, 200, 1), 200);
        x.set(1, 0, 0, 99);
        check.due("and wear", x.creaks(0, 0, 5, 1), 500);
        x.set(2, 0, 0, 9);
        check.due("and loose", x.creaks(0, 0, 49, 1), 994);
        check.due("just 1000", x.creaks(0, 0, 55, 1), 1000);
        check.due("held to 1000", x.creaks(0, 0, 56, 1), 1000);
        check.due("held to 1000", x.creaks(0, 0, 200, 1), 1000);
        x.order(3, 0, 0);
        check.due("less carpet, then held", x.creaks(0, 0, 200, 1), 845);
        x.order(3, 0, 1);
        check.due("held to 0", x.creaks(0, 1, 200, 1), 0);
        x.set(1, 0, 1, 20);
        check.due("just 0", x.creaks(0, 1, 200, 1), 0);
        x.set(1, 0, 1, 21);
        check.due("above 0", x.creaks(0, 1, 196, 1), 1);
        check.due("wears", x.wears(0, 1, 200, 5), 1);
        check.due("rises", x.of(0, 1, 8), 1);
    }

    // ---- promise 43

    /** Promise 43: "What 0 FLIGHTS .. 10 what can be undone. NONE for another what". */
    private static void lookHasElevenWhats() {
        StairRegiment x = new StairRegiment();
        x.flight(2, 10);
        for (int what : new int[] {-1, 11, 12, MIN, MAX}) {
            check.due("look " + what, x.look(what), NONE);
        }
        for (int what = 0; what <= 10; what++) {
            check.due("look " + what, x.look(what), what == 0 ? 1 : 0);
        }
    }

    /** Promise 43: "(STATE as it is.)": NONE, too, is a STATE, and so is one below 0. */
    private static void stateAsItIs() {
        StairRegiment x = new StairRegiment();
        for (int v : new int[] {NONE, MIN, MAX, -1000}) {
            x.state(v);
            check.due("STATE", x.look(5), v);
        }
    }
}
