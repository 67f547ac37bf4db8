import java.util.Random;

/** Promises 6, 7, 15 and 16: visits, nights, THE BOOK, and how nights go in thought. */
public final class NightTest {
    private static final Check check = new Check("NightTest");
    private static final int NONE = StairRegiment.NONE;

    public static void main(String[] args) {
        wrongCalls();
        trodden();
        posts();
        wearAndDraws();
        promotions();
        desertions();
        ordersAndVisits();
        fullBook();
        lastNight();
        thought();
        for (int seed = 0; seed < 400; seed++) {
            byChance(seed);
        }
        check.finish();
    }

    private static void wrongCalls() {
        StairRegiment x = new StairRegiment();
        check.due("visit in no flight", x.visit(0, true, 10, 1), NONE);
        x.flight(4, 10);
        check.due("weight 0", x.visit(0, true, 0, 1), NONE);
        check.due("weight 201", x.visit(0, true, 201, 1), NONE);
        check.due("stride 0", x.visit(0, true, 10, 0), NONE);
        check.due("stride 6", x.visit(0, true, 10, 6), NONE);
        check.due("flight 1", x.visit(1, true, 10, 1), NONE);
        check.due("flight -1", x.visit(-1, true, 10, 1), NONE);
        check.due("nights(0)", x.nights(0), NONE);
        check.due("nights(61)", x.nights(61), NONE);
        check.due("nights(-1)", x.nights(-1), NONE);
        check.due("nothing is done", x.look(3) + x.look(4) + x.look(5) + x.look(10), 0);
        check.due("goes(0, 0)", x.goes(0, 0), NONE);
        check.due("goes(61, 0)", x.goes(61, 0), NONE);
        check.due("goes(1, 4)", x.goes(1, 4), NONE);
        check.due("goes(1, -1)", x.goes(1, -1), NONE);
        check.due("book(-1, 0)", x.book(-1, 0), NONE);
    }

    /** Which STEPS are trodden, by the lines of the book. */
    private static void trodden() {
        for (int size = 1; size <= 16; size++) {
            for (int stride = 1; stride <= 5; stride++) {
                for (int up = 0; up < 2; up++) {
                    StairRegiment x = new StairRegiment();
                    x.flight(size, 10);
                    Check.tell(x, 0, "creaks 1000;");
                    int lines = 0;
                    for (int step = up == 1 ? stride - 1 : size - 1; step >= 0 && step < size; step += up == 1 ? stride : -stride) {
                        lines++;
                    }
                    check.due("visit", x.visit(0, up == 1, 9, stride), lines);
                    check.due("lines", x.look(4), lines);
                    int line = 0;
                    for (int step = up == 1 ? stride - 1 : size - 1; step >= 0 && step < size; step += up == 1 ? stride : -stride) {
                        check.due("which", x.book(line, 2), step);
                        line++;
                    }
                }
            }
        }
    }

    private static void posts() {
        StairRegiment x = new StairRegiment();
        x.flight(1, 10);
        x.flight(4, 10);
        x.order(1, 1, 1);
        x.order(2, 1, 2);
        Check.tell(x, 0, "creaks 1000 when weight=50; creaks 0;");
        check.due("creaked", x.visit(1, true, 50, 1), 3);
        check.due("silent", x.visit(1, true, 40, 1), 0);
        int[][] due = {{0, 0, 100, 50}, {0, 0, 101, 50}, {0, 2, 102, 0}, {0, 0, 103, 50}, {0, 1, 100, 40}, {0, 2, 102, 0}, {0, 1, 103, 40}};
        check.due("lines", x.look(4), due.length);
        for (int i = 0; i < due.length; i++) {
            for (int what = 0; what < 4; what++) {
                check.due("book(" + i + ", " + what + ")", x.book(i, what), due[i][what]);
            }
        }
        check.due("book beyond", x.book(due.length, 0), NONE);
        check.due("book what 4", x.book(0, 4), NONE);
        check.due("book what -1", x.book(0, -1), NONE);
        check.due("heard on watch", x.of(1, 0, 6), 1);
        check.due("failed on watch", x.of(1, 0, 7), 1);
        check.due("heard on leave", x.of(1, 1, 6), 0);
        check.due("failed on leave", x.of(1, 1, 7), 0);
        check.due("wear on leave", x.of(1, 1, 1), 2);
        check.due("wear of a missing one", x.of(1, 2, 1), 0);
        check.due("salutes", x.look(2), 2);
        check.due("creaks", x.look(1), 3);
    }

    private static void wearAndDraws() {
        StairRegiment x = new StairRegiment();
        x.flight(1, 10);
        Check.tell(x, 0, "creaks 0; wears 60;");
        x.visit(0, true, 9, 1);
        check.due("no draw if creaks is 0", x.look(5), 0);
        check.due("wear", x.of(0, 0, 1), 60);
        x.visit(0, true, 9, 1);
        check.due("wear held", x.of(0, 0, 1), 99);
        Check.tell(x, 0, "creaks 1;");
        x.visit(0, true, 9, 1);
        check.due("a draw", x.look(5), 1013904223);
        // the first draw of 0 is 563
        x.state(0);
        Check.tell(x, 0, "creaks 563;");
        check.due("not below", x.visit(0, true, 9, 1), 0);
        x.state(0);
        Check.tell(x, 0, "creaks 564;");
        check.due("below", x.visit(0, true, 9, 1), 1);
        // highest bits without sign: the state is below 0 then
        x.state(-1);
        int state = -1664525 + 1013904223;
        x.visit(0, true, 9, 1);
        check.due("state", x.look(5), state);
        // wears is asked behind what was heard
        StairRegiment y = new StairRegiment();
        y.flight(1, 10);
        Check.tell(y, 0, "creaks 1000; wears 10*heard+1;");
        y.visit(0, true, 9, 1);
        check.due("wear by heard", y.of(0, 0, 1), 11);
    }

    private static void promotions() {
        StairRegiment x = new StairRegiment();
        x.flight(2, 10);
        Check.tell(x, 0, "creaks 1000; rises 2+number;");
        x.visit(0, true, 9, 1);
        x.visit(0, true, 9, 1);
        x.nights(1);
        check.due("two are too few", x.of(0, 0, 3), 0);
        x.visit(0, true, 9, 1);
        x.order(2, 0, 1);
        x.nights(1);
        check.due("promoted", x.of(0, 0, 3), 2);
        check.due("promoted, though missing", x.of(0, 1, 3), 3);
        check.due("lines", x.look(4), 8);
        check.due("night", x.book(6, 0), 1);
        check.due("what", x.book(6, 1), 3);
        check.due("which", x.book(6, 2), 0);
        check.due("rank then", x.book(6, 3), 2);
        check.due("rank then", x.book(7, 3), 3);
        x.nights(1);
        check.due("not twice for the same", x.of(0, 0, 3), 2);
        for (int i = 0; i < 5; i++) {
            x.visit(0, true, 9, 1);
        }
        x.nights(1);
        check.due("once, however many", x.of(0, 0, 3), 4);
        x.nights(1);
        check.due("counted from then on", x.of(0, 0, 3), 4);
        Check.tell(x, 0, "creaks 1000; rises weight+stride;");
        for (int i = 0; i < 3; i++) {
            x.visit(0, true, 9, 1);
        }
        x.nights(1);
        check.due("rises has no visit", x.of(0, 0, 3), 4);
        Check.tell(x, 0, "creaks 1000; rises 2+number;");
        x.set(3, 0, 0, 8);
        for (int i = 0; i < 3; i++) {
            x.visit(0, true, 9, 1);
        }
        x.nights(1);
        check.due("9 at most", x.of(0, 0, 3), 9);
    }

    private static void desertions() {
        StairRegiment x = new StairRegiment();
        x.flight(1, 10);
        Check.tell(x, 0, "creaks 0;");
        for (int i = 0; i < 5; i++) {
            x.visit(0, true, 9, 1);
        }
        x.nights(1);
        check.due("five are too few", x.of(0, 0, 4), 0);
        x.visit(0, true, 9, 1);
        x.order(1, 0, 0);
        x.nights(1);
        check.due("deserts, from leave too", x.of(0, 0, 4), 2);
        check.due("what", x.book(6, 1), 4);
        check.due("night", x.book(6, 0), 1);
        check.due("how often he failed", x.book(6, 3), 6);
        x.nights(1);
        check.due("not again", x.look(4), 7);
        x.order(0, 0, 0);
        x.nights(1);
        check.due("again, if he was called back", x.look(4), 8);
        x.order(0, 0, 0);
        Check.tell(x, 0, "creaks 1000; rises 0;");
        for (int i = 0; i < 6; i++) {
            x.visit(0, true, 9, 1);
        }
        x.nights(1);
        check.due("not, if he was heard as often", x.of(0, 0, 4), 0);
        check.due("promoted by nothing", x.book(14, 1), 3);
        check.due("rank", x.book(14, 3), 0);
        // one who is promoted and deserts: first the one, then the other
        StairRegiment y = new StairRegiment();
        y.flight(1, 10);
        Check.tell(y, 0, "creaks 1000 when weight=100; creaks 0;");
        for (int i = 0; i < 10; i++) {
            y.visit(0, true, i < 3 ? 100 : 50, 1);
        }
        y.nights(1);
        check.due("promoted", y.book(10, 1), 3);
        check.due("deserted", y.book(11, 1), 4);
    }

    private static void ordersAndVisits() {
        StairRegiment x = new StairRegiment();
        x.flight(3, 10);
        x.flight(2, 10);
        Check.tell(x, 0, "creaks 1000; wears 0;");
        check.whole(x, 1, "on 2 flight 0 step 0 desert;on 1 flight 0 step 0 leave;on 1 flight 1 step 1 loosen;"
            + "on 2 flight 0 step 0 watch;on 3 flight 1 step 1 mend;on 3 flight 0 step 2 carpet;on 4 flight 0 step 2 bare;", 7);
        check.whole(x, 2, "on 1 flight 0 up weight 7 stride 1;on 1 flight 1 down weight 8 stride 1;on 1 flight 0 down weight 9 stride 2;", 3);
        check.due("night 0", x.nights(1), 0);
        check.due("post", x.of(0, 0, 4), 0);
        check.due("night 1", x.nights(1), 7);
        int[] which = {0, 1, 2, 101, 100, 2, 0};
        for (int i = 0; i < which.length; i++) {
            check.due("which", x.book(i, 2), which[i]);
            check.due("night", x.book(i, 0), 1);
        }
        check.due("orders come first", x.of(0, 0, 6), 0);
        check.due("heard twice", x.of(0, 2, 6), 2);
        check.due("loose", x.of(1, 1, 2), 1);
        x.nights(1);
        check.due("line by line", x.of(0, 0, 4), 0);
        x.nights(1);
        check.due("mended", x.of(1, 1, 2), 0);
        check.due("carpet", x.of(0, 2, 5), 1);
        x.nights(1);
        check.due("bare", x.of(0, 2, 5), 0);
        check.due("nights go on", x.nights(60), 0);
        check.due("night", x.look(3), 65);
    }

    private static void fullBook() {
        StairRegiment x = new StairRegiment();
        x.flight(16, 10);
        Check.tell(x, 0, "creaks 1000;");
        for (int i = 0; i < 9; i++) {
            x.visit(0, true, 9, 1);
        }
        check.due("lines", x.look(4), 144);
        check.due("visit beyond the book", x.visit(0, false, 9, 1), 16);
        check.due("no more then", x.look(4), 150);
        check.due("last line", x.book(149, 2), 10);
        check.due("beyond", x.book(150, 2), NONE);
        check.due("all count", x.look(1), 160);
        x.nights(1);
        check.due("promoted, not booked", x.of(0, 0, 3), 1);
        check.due("no more", x.look(4), 150);
    }

    private static void lastNight() {
        StairRegiment x = new StairRegiment();
        for (int i = 0; i < 166; i++) {
            x.nights(60);
        }
        check.due("night", x.look(3), 9960);
        check.due("nights(40)", x.nights(40), NONE);
        check.due("night", x.look(3), 9960);
        check.due("nights(39)", x.nights(39), 0);
        check.due("night", x.look(3), 9999);
        check.due("nights(1)", x.nights(1), NONE);
    }

    private static void thought() {
        StairRegiment x = new StairRegiment();
        x.flight(3, 10);
        x.flight(1, 10);
        Check.tell(x, 0, "creaks 500 when number=0; creaks 499; wears 0;");
        check.whole(x, 2, "on 0 flight 0 up weight 7 stride 1;on 2 flight 1 up weight 7 stride 1;on 2 flight 0 up weight 7 stride 1;", 3);
        x.order(2, 0, 2);
        x.visit(0, true, 9, 3);
        check.due("heard", x.goes(1, 0), 1);
        check.due("failed", x.goes(1, 1), 1);
        check.due("salutes, with those that were", x.goes(1, 2), 2);
        check.due("missing", x.goes(1, 3), 1);
        check.due("heard", x.goes(60, 0), 3);
        check.due("failed", x.goes(60, 1), 2);
        check.due("salutes", x.goes(60, 2), 3);
        check.due("nothing stays", x.look(3) + x.look(1) + x.look(5) + x.of(0, 0, 6), 0);
        check.due("nothing stays in the book", x.look(4), 1);
        check.due("nothing to undo of it", x.look(10), 2);
    }

    // ---- houses by chance against the plain one

    private static final String[] LAWS = {"",
        "creaks weight*4-carpet*100 when number>1;wears stride;rises rank+1;",
        "creaks 700 when heard<failed+2;creaks 300;wears heard+failed;rises night/2;",
        "creaks height*30-wear*stride;wears 3 when night>2;rises 0 when number=3;",
        "creaks 20;wears 0;"};

    private static void giveLaw(PlainHouse plain, int law) {
        PlainHouse.Rule creaks = plain.creaks;
        if (law == 1) {
            plain.creaks = (m, w, s, n) -> m.number > 1 ? w * 4 - m.carpet * 100 : creaks.tell(m, w, s, n);
            plain.wears = (m, w, s, n) -> s;
            plain.rises = (m, w, s, n) -> m.rank + 1;
        } else if (law == 2) {
            plain.creaks = (m, w, s, n) -> m.heard < m.failed + 2 ? 700 : 300;
            plain.wears = (m, w, s, n) -> m.heard + m.failed;
            plain.rises = (m, w, s, n) -> n / 2;
        } else if (law == 3) {
            plain.creaks = (m, w, s, n) -> m.height * 30 - m.wear * s;
            plain.wears = (m, w, s, n) -> n > 2 ? 3 : 1;
            plain.rises = (m, w, s, n) -> m.number == 3 ? 0 : 1;
        } else if (law == 4) {
            plain.creaks = (m, w, s, n) -> 20;
            plain.wears = (m, w, s, n) -> 0;
        }
    }

    private static void byChance(int seed) {
        Random random = new Random(seed);
        StairRegiment x = new StairRegiment();
        PlainHouse plain = new PlainHouse();
        PlainHouse inThought = new PlainHouse();
        inThought.thought = true;
        PlainHouse[] both = {plain, inThought};
        int flights = 1 + random.nextInt(6);
        int law = random.nextInt(LAWS.length);
        Check.tell(x, 0, LAWS[law]);
        giveLaw(plain, law);
        giveLaw(inThought, law);
        for (int f = 0; f < flights; f++) {
            int steps = 1 + random.nextInt(16);
            int height = 5 + random.nextInt(36);
            x.flight(steps, height);
            plain.build(steps, height);
            inThought.build(steps, height);
        }
        tellTexts(random, x, both, flights);
        int state = random.nextInt();
        x.state(state);
        plain.state = state;
        int nights = 1 + random.nextInt(12);
        for (int i = 0; i < nights; i++) {
            inThought.passNight();
        }
        sameThought(x, inThought, nights);
        for (int round = 0; round < 12; round++) {
            int f = random.nextInt(flights);
            int step = random.nextInt(plain.flights.get(f).size());
            if (random.nextInt(3) == 0) {
                int what = random.nextInt(7);
                x.order(what, f, step);
                plain.order(what, f, step);
            } else if (random.nextBoolean()) {
                boolean up = random.nextBoolean();
                int weight = 1 + random.nextInt(200);
                int stride = 1 + random.nextInt(5);
                check.due("visit", x.visit(f, up, weight, stride), plain.visit(f, up, weight, stride));
            } else {
                int n = 1 + random.nextInt(3);
                int due = 0;
                for (int i = 0; i < n; i++) {
                    due += plain.passNight();
                }
                check.due("nights", x.nights(n), due);
            }
        }
        same(x, plain);
    }

    private static void tellTexts(Random random, StairRegiment x, PlainHouse[] both, int flights) {
        String[] names = {"watch", "leave", "desert", "carpet", "bare", "mend", "loosen"};
        StringBuilder orders = new StringBuilder();
        StringBuilder visits = new StringBuilder();
        for (int i = random.nextInt(12); i > 0; i--) {
            int f = random.nextInt(flights);
            int night = random.nextInt(8);
            int step = random.nextInt(both[0].flights.get(f).size());
            int what = random.nextInt(7);
            orders.append("on " + night + " flight " + f + " step " + step + " " + names[what] + ";");
            for (PlainHouse p : both) {
                p.orders.add(new PlainHouse.Order(night, f, step, what));
            }
        }
        for (int i = random.nextInt(11); i > 0; i--) {
            int f = random.nextInt(flights);
            int night = random.nextInt(6);
            boolean up = random.nextBoolean();
            int weight = 1 + random.nextInt(200);
            int stride = 1 + random.nextInt(3);
            visits.append("on " + night + " flight " + f + (up ? " up" : " down") + " weight " + weight + " stride " + stride + ";");
            for (PlainHouse p : both) {
                p.visits.add(new PlainHouse.Visit(night, f, up, weight, stride));
            }
        }
        check.due("orders", Check.tell(x, 1, orders.toString()), both[0].orders.size());
        check.due("visits", Check.tell(x, 2, visits.toString()), both[0].visits.size());
    }

    private static void sameThought(StairRegiment x, PlainHouse plain, int nights) {
        int heard = 0;
        int failed = 0;
        int missing = 0;
        for (java.util.List<PlainHouse.Man> men : plain.flights) {
            for (PlainHouse.Man m : men) {
                heard += m.heard;
                failed += m.failed;
                missing += m.post == 2 ? 1 : 0;
            }
        }
        check.due("goes 0", x.goes(nights, 0), heard);
        check.due("goes 1", x.goes(nights, 1), failed);
        check.due("goes 2", x.goes(nights, 2), plain.salutes);
        check.due("goes 3", x.goes(nights, 3), missing);
    }

    private static void same(StairRegiment x, PlainHouse plain) {
        for (java.util.List<PlainHouse.Man> men : plain.flights) {
            for (PlainHouse.Man m : men) {
                int[] due = {m.height, m.wear, m.loose, m.rank, m.post, m.carpet, m.heard, m.failed};
                for (int what = 0; what < due.length; what++) {
                    check.due("of(" + m.flight + ", " + m.number + ", " + what + ")", x.of(m.flight, m.number, what), due[what]);
                }
            }
        }
        check.due("look(1)", x.look(1), plain.creaked);
        check.due("look(2)", x.look(2), plain.salutes);
        check.due("look(3)", x.look(3), plain.night);
        check.due("look(4)", x.look(4), plain.book.size());
        check.due("look(5)", x.look(5), plain.state);
        for (int i = 0; i < plain.book.size(); i++) {
            PlainHouse.Line line = plain.book.get(i);
            check.due("book night", x.book(i, 0), line.night());
            check.due("book what", x.book(i, 1), line.what());
            check.due("book which", x.book(i, 2), line.which());
            check.due("book much", x.book(i, 3), line.much());
        }
    }
}
