/** Promises 1 to 5, 12 to 14 and 43: what is told and what stands. */
public final class TellTest {
    private static final Check check = new Check("TellTest");
    private static final int NONE = StairRegiment.NONE;

    public static void main(String[] args) {
        newObject();
        state();
        flights();
        sets();
        orders();
        asks();
        looks();
        check.finish();
    }

    private static void newObject() {
        StairRegiment x = new StairRegiment();
        for (int what = 0; what <= 10; what++) {
            check.due("new look(" + what + ")", x.look(what), 0);
        }
        check.due("new book", x.book(0, 0), NONE);
        check.due("new undo", x.undo(), false);
        check.due("new image(false)", x.image(false), false);
        check.due("new fault(0)", x.fault(0), 0);
        check.due("new fault(1)", x.fault(1), NONE);
        check.due("new end(0)", x.end(0), true);
        check.due("new end(1)", x.end(1), false);
        for (int p = 0; p < 8; p++) {
            check.due("new drilled", x.drilled(7, p), p);
        }
        check.due("new missing(0)", x.missing(0), 0);
        check.due("new game(0)", x.game(0), NONE);
        check.due("new goes", x.goes(60, 3), 0);
    }

    private static void state() {
        StairRegiment x = new StairRegiment();
        check.due("state(7)", x.state(7), 0);
        check.due("state(MIN)", x.state(Integer.MIN_VALUE), 7);
        check.due("look(5)", x.look(5), Integer.MIN_VALUE);
        check.due("state(MAX)", x.state(Integer.MAX_VALUE), Integer.MIN_VALUE);
    }

    private static void flights() {
        StairRegiment x = new StairRegiment();
        int[][] wrongs = {{0, 10}, {-1, 10}, {17, 10}, {5, 4}, {5, 41}, {5, -10}, {Integer.MAX_VALUE, 10}, {1, Integer.MIN_VALUE}};
        for (int[] w : wrongs) {
            check.due("flight(" + w[0] + ", " + w[1] + ")", x.flight(w[0], w[1]), NONE);
        }
        int[][] rights = {{1, 5}, {16, 40}, {3, 12}, {2, 20}, {8, 6}, {5, 30}};
        for (int i = 0; i < 6; i++) {
            check.due("flight " + i, x.flight(rights[i][0], rights[i][1]), i);
            check.due("look(0)", x.look(0), i + 1);
            for (int step = 0; step < rights[i][0]; step++) {
                check.due("height", x.of(i, step, 0), rights[i][1]);
                for (int what = 1; what <= 7; what++) {
                    check.due("new step's " + what, x.of(i, step, what), 0);
                }
            }
            check.due("of beyond", x.of(i, rights[i][0], 0), NONE);
        }
        check.due("seventh flight", x.flight(1, 10), NONE);
        check.due("look(0)", x.look(0), 6);
    }

    private static void sets() {
        StairRegiment x = new StairRegiment();
        check.due("set in no flight", x.set(0, 0, 0, 10), false);
        x.flight(3, 10);
        x.flight(2, 11);
        int[][] bounds = {{5, 40}, {0, 99}, {0, 9}, {0, 9}};
        for (int what = 0; what < 4; what++) {
            for (int side = 0; side < 2; side++) {
                int v = bounds[what][side];
                check.due("set " + what + " " + v, x.set(what, 1, 1, v), true);
                check.due("of " + what, x.of(1, 1, what), v);
                check.due("set beyond", x.set(what, 1, 1, side == 0 ? v - 1 : v + 1), false);
                check.due("of " + what, x.of(1, 1, what), v);
            }
        }
        check.due("neighbour's rank", x.of(1, 0, 3), 0);
        check.due("other flight's rank", x.of(0, 1, 3), 0);
        check.due("set what 4", x.set(4, 0, 0, 1), false);
        check.due("set what -1", x.set(-1, 0, 0, 1), false);
        check.due("set step 3", x.set(1, 0, 3, 1), false);
        check.due("set step -1", x.set(1, 0, -1, 1), false);
        check.due("set flight 2", x.set(1, 2, 0, 1), false);
        check.due("set flight -1", x.set(1, -1, 0, 1), false);
        check.due("set far", x.set(1, Integer.MAX_VALUE, Integer.MAX_VALUE, 1), false);
    }

    private static void orders() {
        StairRegiment x = new StairRegiment();
        check.due("order in no flight", x.order(0, 0, 0), false);
        x.flight(3, 10);
        check.due("leave", x.order(1, 0, 2), true);
        check.due("post", x.of(0, 2, 4), 1);
        check.due("desert", x.order(2, 0, 2), true);
        check.due("post", x.of(0, 2, 4), 2);
        check.due("watch", x.order(0, 0, 2), true);
        check.due("post", x.of(0, 2, 4), 0);
        check.due("carpet", x.order(3, 0, 1), true);
        check.due("carpet", x.of(0, 1, 5), 1);
        check.due("other's carpet", x.of(0, 2, 5), 0);
        check.due("bare", x.order(4, 0, 1), true);
        check.due("carpet", x.of(0, 1, 5), 0);
        for (int i = 1; i <= 11; i++) {
            check.due("loosen", x.order(6, 0, 0), true);
            check.due("loose", x.of(0, 0, 2), Math.min(i, 9));
        }
        check.due("mend", x.order(5, 0, 0), true);
        check.due("loose", x.of(0, 0, 2), 0);
        check.due("order 7", x.order(7, 0, 0), false);
        check.due("order -1", x.order(-1, 0, 0), false);
        check.due("order step 3", x.order(0, 0, 3), false);
        check.due("order step -1", x.order(0, 0, -1), false);
        check.due("order flight 1", x.order(0, 1, 0), false);
        check.due("order flight -1", x.order(0, -1, 0), false);
        check.due("orders are not booked", x.look(4), 0);
    }

    private static void asks() {
        StairRegiment x = new StairRegiment();
        check.due("creaks in no flight", x.creaks(0, 0, 5, 1), NONE);
        check.due("wears in no flight", x.wears(0, 0, 5, 1), NONE);
        x.flight(4, 10);
        x.set(1, 0, 1, 99);
        x.set(2, 0, 1, 9);
        check.due("unwritten creaks", x.creaks(0, 1, 55, 2), 55 + 495 + 450);
        check.due("unwritten creaks held", x.creaks(0, 1, 56, 2), 1000);
        x.order(3, 0, 1);
        check.due("unwritten creaks on carpet", x.creaks(0, 1, 55, 2), 700);
        x.order(3, 0, 0);
        check.due("unwritten creaks at least 0", x.creaks(0, 0, 200, 2), 0);
        check.due("unwritten wears", x.wears(0, 0, 200, 5), 1);
        check.due("unwritten rises", x.of(0, 0, 8), 1);
        int[][] wrongs = {{0, 0, 0, 1}, {0, 0, 201, 1}, {0, 0, 1, 0}, {0, 0, 1, 6}, {0, 4, 1, 1}, {0, -1, 1, 1}, {1, 0, 1, 1}, {-1, 0, 1, 1}};
        for (int[] w : wrongs) {
            check.due("wrong creaks", x.creaks(w[0], w[1], w[2], w[3]), NONE);
            check.due("wrong wears", x.wears(w[0], w[1], w[2], w[3]), NONE);
        }
        check.due("edges", x.creaks(0, 3, 1, 5), 1);
        check.due("edges", x.creaks(0, 3, 200, 1), 200);
        check.due("of what 10", x.of(0, 0, 10), NONE);
        check.due("of what -1", x.of(0, 0, -1), NONE);
        check.due("of step 4", x.of(0, 4, 0), NONE);
        check.due("of step -1", x.of(0, -1, 0), NONE);
        check.due("of flight 1", x.of(1, 0, 0), NONE);
        check.due("of flight -1", x.of(-1, 0, 0), NONE);
        x.flight(4, 10);
        check.whole(x, 3, "flight 0 step 1 door 1 step 2;flight 1 step 2 door 0 step 1;flight 1 step 2 door 0 step 3;", 3);
        check.due("doors of 0 1", x.of(0, 1, 9), 2);
        check.due("doors of 1 2", x.of(1, 2, 9), 3);
        check.due("doors of 0 3", x.of(0, 3, 9), 1);
        check.due("doors of 1 1", x.of(1, 1, 9), 0);
    }

    private static void looks() {
        StairRegiment x = new StairRegiment();
        x.flight(2, 10);
        x.flight(2, 10);
        check.whole(x, 0, "creaks 1000;", 1);
        check.whole(x, 1, "on 5 flight 0 step 0 watch;on 6 flight 0 step 0 watch;", 2);
        check.whole(x, 2, "on 5 flight 0 up weight 1 stride 1;on 6 flight 0 up weight 1 stride 1;on 7 flight 1 down weight 1 stride 1;", 3);
        check.whole(x, 3, "flight 0 step 1 door 1 step 0;", 1);
        x.order(2, 0, 0);
        x.visit(0, true, 9, 1);
        x.nights(2);
        int[] due = {2, 1, 1, 2, 2, 1013904223, 1, 2, 3, 1, 4};
        for (int what = 0; what < due.length; what++) {
            check.due("look(" + what + ")", x.look(what), due[what]);
        }
        check.due("look(11)", x.look(11), NONE);
        check.due("look(-1)", x.look(-1), NONE);
    }
}
