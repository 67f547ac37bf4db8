import java.util.LinkedHashMap;
import java.util.Map;
import java.util.function.Consumer;

/** The edges of promises 41 and 42, UNDO and THE IMAGE: a test for each sentence that names one. */
public final class EdgeBackTest {
    private static final Check check = new Check("EdgeBackTest");
    private static final int NONE = StairRegiment.NONE;

    public static void main(String[] args) {
        nothingToUndo();
        eachDeedGoesBack();
        eachNightOfSeveral();
        sixAreKept();
        keptAnewBehindUndo();
        stateGoesBack();
        bookGoesBack();
        fullBookGoesBack();
        promotionGoesBack();
        deedsThatChangeNothing();
        refusedDeedsAreNone();
        othersForget();
        thoughtDoesNotForget();
        lawAndDoorsDoNotForget();
        lawAndDoorsAreNotUndone();
        noImageYet();
        imageOfANewObject();
        allThatIsAndWasTold();
        asItWasWhenItWasTaken();
        goneBackMoreThanOnce();
        theLaterImage();
        notTheTape();
        nothingToUndoThen();
        takingDoesNotForget();
        undoneBehindTheImage();
        check.finish();
    }

    private static StairRegiment made(Consumer<StairRegiment> recipe) {
        StairRegiment x = new StairRegiment();
        recipe.accept(x);
        return x;
    }

    private static void house(StairRegiment x) {
        x.flight(4, 10);
        x.flight(2, 20);
        Check.tell(x, 0, "creaks 300+number*250;wears 7;rises 2;");
        Check.tell(x, 1, "on 0 flight 0 step 1 desert;on 1 flight 0 step 1 watch;on 1 flight 0 step 0 carpet;on 2 flight 1 step 0 loosen;");
        Check.tell(x, 2, "on 0 flight 0 up weight 9 stride 1;on 1 flight 1 down weight 8 stride 1;on 2 flight 0 up weight 7 stride 2;");
        Check.tell(x, 3, "flight 0 step 3 door 1 step 0;");
        x.state(-99);
    }

    /** What is standing behind a recipe and some undo() more. */
    private static String undone(Consumer<StairRegiment> recipe, int times) {
        return Seen.standing(recipe.andThen(x -> {
            for (int i = 0; i < times; i++) {
                check.due("undo " + i, x.undo(), true);
            }
        }));
    }

    /** But for how many can be undone, which is the last of the first eleven numbers. */
    private static String withoutCount(String standing) {
        String[] words = standing.split(" ", 12);
        words[10] = "";
        return String.join(" ", words);
    }

    private static void same(String what, String got, String want) {
        check.due(what + " (<" + got + "> for <" + want + ">)", got.equals(want), true);
    }

    // ---- promise 41

    /** Promise 41: "false if there is nothing". */
    private static void nothingToUndo() {
        String was = Seen.all(EdgeBackTest::house);
        check.due("nothing", made(EdgeBackTest::house).undo(), false);
        same("nothing goes back", Seen.all(x -> {
            house(x);
            x.undo();
            x.undo();
        }), was);
        StairRegiment x = made(EdgeBackTest::house);
        x.nights(1);
        check.due("one", x.undo(), true);
        check.due("no second", x.undo(), false);
        check.due("NIGHT", x.look(3), 0);
    }

    /** "the latest NIGHT, order, visit by hand not undone yet goes back". */
    private static void eachDeedGoesBack() {
        Map<String, Consumer<StairRegiment>> deeds = new LinkedHashMap<>();
        for (int what = 0; what <= 6; what++) {
            int w = what;
            deeds.put("order " + w, x -> x.order(w, 0, 2));
        }
        deeds.put("visit up", x -> x.visit(0, true, 200, 1));
        deeds.put("visit down", x -> x.visit(1, false, 100, 2));
        deeds.put("a visit that treads none", x -> x.visit(1, true, 100, 5));
        deeds.put("a NIGHT", x -> x.nights(1));
        Consumer<StairRegiment> ready = x -> {
            house(x);
            x.set(2, 0, 2, 4);
            x.order(1, 0, 0);
            x.order(3, 0, 3);
        };
        String was = Seen.standing(ready);
        for (Map.Entry<String, Consumer<StairRegiment>> deed : deeds.entrySet()) {
            same(deed.getKey() + " goes back", undone(ready.andThen(deed.getValue()), 1), was);
            same(deed.getKey() + " twice goes back", undone(ready.andThen(deed.getValue()).andThen(deed.getValue()), 2), was);
        }
        // the latest comes first
        Consumer<StairRegiment> many = ready;
        int done = 0;
        for (Consumer<StairRegiment> deed : deeds.values()) {
            Consumer<StairRegiment> before = many;
            many = many.andThen(deed);
            done++;
            same("deed " + done, withoutCount(undone(many, 1)), withoutCount(Seen.standing(before)));
        }
    }

    /** nights(n) are n NIGHTS: each goes back alone. */
    private static void eachNightOfSeveral() {
        for (int n = 1; n <= 6; n++) {
            int nights = n;
            check.due("what can be undone", made(x -> x.nights(nights)).look(10), n);
            for (int back = 1; back <= n; back++) {
                int left = n - back;
                String want = Seen.standing(x -> {
                    house(x);
                    if (left > 0) {
                        x.nights(left);
                    }
                });
                same(n + " NIGHTS, " + back + " undone", undone(x -> {
                    house(x);
                    x.nights(nights);
                }, back), want);
            }
        }
    }

    /** "6 are kept". */
    private static void sixAreKept() {
        for (int deeds = 0; deeds <= 14; deeds++) {
            StairRegiment x = new StairRegiment();
            x.flight(1, 10);
            for (int i = 0; i < deeds; i++) {
                x.order(6, 0, 0);
                check.due("kept behind " + (i + 1), x.look(10), Math.min(6, i + 1));
            }
            int loose = Math.min(9, deeds);
            check.due("LOOSE", x.of(0, 0, 2), loose);
            for (int i = 1; i <= Math.min(6, deeds); i++) {
                check.due("undo", x.undo(), true);
                check.due("LOOSE", x.of(0, 0, 2), Math.min(9, deeds - i));
                check.due("left", x.look(10), Math.min(6, deeds) - i);
            }
            check.due("no more", x.undo(), false);
            check.due("LOOSE", x.of(0, 0, 2), Math.min(9, Math.max(0, deeds - 6)));
        }
        StairRegiment x = new StairRegiment();
        x.nights(60);
        check.due("of sixty NIGHTS six", x.look(10), 6);
        x.nights(7);
        check.due("of seven more six", x.look(10), 6);
        for (int i = 0; i < 6; i++) {
            x.undo();
        }
        check.due("NIGHT", x.look(3), 61);
        check.due("no more", x.undo(), false);
    }

    /** "not undone yet": what was undone is gone, and new deeds take its place. */
    private static void keptAnewBehindUndo() {
        StairRegiment x = new StairRegiment();
        x.flight(1, 10);
        for (int i = 0; i < 8; i++) {
            x.order(6, 0, 0);
        }
        for (int i = 0; i < 3; i++) {
            x.undo();
        }
        check.due("LOOSE 5", x.of(0, 0, 2), 5);
        x.order(3, 0, 0);
        x.order(1, 0, 0);
        check.due("three and two", x.look(10), 5);
        x.undo();
        check.due("POST", x.of(0, 0, 4), 0);
        check.due("CARPET", x.of(0, 0, 5), 1);
        x.undo();
        check.due("CARPET", x.of(0, 0, 5), 0);
        check.due("LOOSE 5", x.of(0, 0, 2), 5);
        x.undo();
        x.undo();
        x.undo();
        check.due("LOOSE 2", x.of(0, 0, 2), 2);
        check.due("no more", x.undo(), false);
    }

    /** "(STATE, THE BOOK, too)". */
    private static void stateGoesBack() {
        StairRegiment x = made(EdgeBackTest::house);
        x.visit(0, true, 9, 1);
        int once = x.look(5);
        x.visit(0, true, 9, 1);
        check.due("drawn", once != -99 && x.look(5) != once, true);
        x.undo();
        check.due("STATE", x.look(5), once);
        x.undo();
        check.due("STATE", x.look(5), -99);
        x.visit(0, true, 9, 1);
        check.due("the same DRAWS again", x.look(5), once);
    }

    private static void bookGoesBack() {
        StairRegiment x = made(EdgeBackTest::house);
        x.visit(0, true, 11, 1);
        x.visit(1, true, 12, 1);
        check.due("lines", x.look(4), 6);
        x.undo();
        check.due("lines", x.look(4), 4);
        check.due("no line 4", x.book(4, 0), NONE);
        check.due("line 3", x.book(3, 3), 11);
        x.visit(1, true, 13, 1);
        check.due("lines", x.look(4), 6);
        check.due("line 4 anew", x.book(4, 3), 13);
        x.undo();
        x.undo();
        check.due("no line", x.look(4), 0);
        check.due("no line", x.book(0, 0), NONE);
    }

    /** A BOOK that a deed filled has room again when the deed is undone. */
    private static void fullBookGoesBack() {
        StairRegiment x = new StairRegiment();
        x.flight(16, 10);
        Check.tell(x, 0, "creaks 1000;");
        for (int i = 0; i < 11; i++) {
            x.visit(0, true, 20 + i, 1);
        }
        check.due("full", x.look(4), 150);
        x.undo();
        check.due("still full", x.look(4), 150);
        check.due("line 149", x.book(149, 3), 29);
        x.undo();
        check.due("room again", x.look(4), 144);
        check.due("no line 144", x.book(144, 0), NONE);
        x.visit(0, false, 99, 1);
        check.due("full anew", x.look(4), 150);
        check.due("line 144", x.book(144, 2), 15);
        check.due("line 149", x.book(149, 3), 99);
    }

    /** What HEARD was at the last promotion goes back, too. */
    private static void promotionGoesBack() {
        StairRegiment x = new StairRegiment();
        x.flight(1, 10);
        Check.tell(x, 0, "creaks 1000;");
        for (int i = 0; i < 3; i++) {
            x.visit(0, true, 9, 1);
        }
        x.nights(1);
        check.due("promoted", x.of(0, 0, 3), 1);
        x.undo();
        check.due("not promoted", x.of(0, 0, 3), 0);
        x.nights(1);
        check.due("promoted again", x.of(0, 0, 3), 1);
        x.nights(1);
        x.undo();
        x.nights(1);
        check.due("not twice", x.of(0, 0, 3), 1);
    }

    /** A deed that changes nothing is a deed: it is undone as one. */
    private static void deedsThatChangeNothing() {
        StairRegiment x = new StairRegiment();
        x.flight(1, 10);
        x.order(3, 0, 0);
        x.order(3, 0, 0);
        x.order(0, 0, 0);
        x.visit(0, true, 9, 5);
        check.due("four", x.look(10), 4);
        for (int i = 0; i < 3; i++) {
            check.due("undo", x.undo(), true);
            check.due("CARPET", x.of(0, 0, 5), 1);
        }
        check.due("undo", x.undo(), true);
        check.due("CARPET", x.of(0, 0, 5), 0);
    }

    private static void refusedDeedsAreNone() {
        StairRegiment x = made(EdgeBackTest::house);
        x.order(1, 0, 0);
        x.order(7, 0, 0);
        x.order(-1, 0, 0);
        x.order(1, 0, 4);
        x.order(1, 2, 0);
        x.visit(2, true, 9, 1);
        x.visit(0, true, 0, 1);
        x.visit(0, true, 9, 6);
        x.nights(0);
        x.nights(61);
        check.due("one deed", x.look(10), 1);
        check.due("undo", x.undo(), true);
        check.due("POST", x.of(0, 0, 4), 0);
        check.due("no other", x.undo(), false);
    }

    private static void deeds(StairRegiment x) {
        x.order(1, 0, 0);
        x.visit(0, true, 30, 1);
        x.nights(1);
    }

    /** "whatever else is told .. forgets them". */
    private static void othersForget() {
        Map<String, Consumer<StairRegiment>> ways = new LinkedHashMap<>();
        ways.put("state", x -> x.state(5));
        ways.put("the same state", x -> x.state(x.look(5)));
        ways.put("flight", x -> x.flight(1, 10));
        for (int what = 0; what <= 3; what++) {
            int w = what;
            ways.put("set " + w, x -> x.set(w, 0, 0, 6));
            ways.put("set " + w + " as it is", x -> x.set(w, 0, 0, x.of(0, 0, w)));
        }
        ways.put("ORDERS", x -> Check.tell(x, 1, "on 5 flight 0 step 0 watch;"));
        ways.put("no ORDERS", x -> x.text(1));
        ways.put("VISITS", x -> Check.tell(x, 2, "on 5 flight 0 up weight 1 stride 1;"));
        ways.put("no VISITS", x -> x.text(2));
        ways.put("gone back to THE IMAGE", x -> {
            x.image(true);
            x.image(false);
        });
        for (Map.Entry<String, Consumer<StairRegiment>> way : ways.entrySet()) {
            StairRegiment x = made(((Consumer<StairRegiment>) EdgeBackTest::house).andThen(EdgeBackTest::deeds));
            check.due("three deeds", x.look(10), 3);
            way.getValue().accept(x);
            check.due(way.getKey() + " forgets", x.look(10), 0);
            check.due(way.getKey() + " forgets", x.undo(), false);
            check.due("NIGHT stays", x.look(3), 1);
            x.order(5, 0, 0);
            check.due("one anew", x.look(10), 1);
        }
    }

    /** "but .. what is told for thought (WHO, BLIND, DRILL, MISSING, RUNNER, RAMP, CELLAR, GAME)"; what is only asked. */
    private static void thoughtDoesNotForget() {
        Map<String, Consumer<StairRegiment>> ways = new LinkedHashMap<>();
        ways.put("WHO", x -> x.suspect(9, 1));
        ways.put("no suspect", x -> x.suspect(NONE, 0));
        ways.put("BLIND", x -> x.signer(123));
        ways.put("no signer", x -> x.signer(NONE));
        ways.put("DRILL", x -> x.drill(76543210));
        ways.put("MISSING", x -> x.calls(1));
        ways.put("no number", x -> x.calls(NONE));
        ways.put("RUNNER", x -> x.length(1));
        ways.put("no length", x -> x.length(NONE));
        ways.put("RAMP", x -> x.wall(1));
        ways.put("no wall", x -> x.wall(NONE));
        ways.put("CELLAR", x -> x.digit(1));
        ways.put("no digit", x -> x.digit(NONE));
        ways.put("GAME", x -> x.coins(1, 1));
        ways.put("the TAPE", x -> Check.feed(x, "creaks 1;"));
        ways.put("GOES", x -> x.goes(60, 0));
        ways.put("asking", x -> x.look(x.of(0, 0, 8) + x.creaks(0, 0, 1, 1) + x.wears(0, 0, 1, 1) + x.book(0, 0) + x.fault(0)));
        keeps(ways);
    }

    private static void keeps(Map<String, Consumer<StairRegiment>> ways) {
        for (Map.Entry<String, Consumer<StairRegiment>> way : ways.entrySet()) {
            StairRegiment x = made(((Consumer<StairRegiment>) EdgeBackTest::house).andThen(EdgeBackTest::deeds));
            way.getValue().accept(x);
            check.due(way.getKey() + " does not forget", x.look(10), 3);
            for (int i = 0; i < 3; i++) {
                check.due(way.getKey() + " does not forget", x.undo(), true);
            }
            check.due("POST", x.of(0, 0, 4), 0);
            check.due("NIGHT", x.look(3), 0);
        }
    }

    /** "but THE LAW, DOORS"; and a text that is not taken tells nothing. */
    private static void lawAndDoorsDoNotForget() {
        Map<String, Consumer<StairRegiment>> ways = new LinkedHashMap<>();
        ways.put("THE LAW", x -> Check.tell(x, 0, "creaks 1;"));
        ways.put("no LAW", x -> x.text(0));
        ways.put("DOORS", x -> Check.tell(x, 3, "flight 0 step 0 door 1 step 1;"));
        ways.put("no DOORS", x -> x.text(3));
        for (int k = 0; k <= 3; k++) {
            int wrong = k;
            ways.put("a FAULT in TEXT " + k, x -> Check.tell(x, wrong, "wrong"));
        }
        ways.put("no such TEXT", x -> x.text(4));
        ways.put("no such TEXT below 0", x -> x.text(-1));
        keeps(ways);
    }

    /** UNDO gives back what deeds did: what was told since stays told. */
    private static void lawAndDoorsAreNotUndone() {
        StairRegiment x = made(EdgeBackTest::house);
        x.nights(1);
        Check.tell(x, 0, "creaks 11;wears 12;");
        Check.tell(x, 3, "");
        x.digit(5);
        Check.feed(x, "creaks 13;");
        x.undo();
        check.due("THE LAW", x.creaks(0, 0, 9, 1), 11);
        check.due("THE LAW", x.look(6), 2);
        check.due("DOORS", x.look(9), 0);
        check.due("CELLAR", x.digit(6), 2);
        check.due("the TAPE", x.text(0), 1);
        check.due("NIGHT", x.look(3), 0);
    }

    // ---- promise 42

    /** Promise 42: "false if there is none". */
    private static void noImageYet() {
        Consumer<StairRegiment> ready = ((Consumer<StairRegiment>) EdgeBackTest::house).andThen(EdgeBackTest::deeds);
        String was = Seen.all(ready);
        check.due("none", made(ready).image(false), false);
        same("nothing is changed", Seen.all(ready.andThen(x -> x.image(false))), was);
        check.due("what can be undone stays", made(ready.andThen(x -> x.image(false))).look(10), 3);
    }

    /** THE IMAGE of a house without stairs: all that came since is gone. */
    private static void imageOfANewObject() {
        String was = Seen.standing(x -> { }) + Seen.toldForThought(x -> { });
        Consumer<StairRegiment> gone = x -> {
            check.due("taken", x.image(true), true);
            house(x);
            deeds(x);
            tellForThought(x, 3);
            check.due("gone back", x.image(false), true);
        };
        same("a new object again", Seen.standing(gone) + Seen.toldForThought(gone), was);
        StairRegiment x = made(gone);
        check.due("no FLIGHT", x.of(0, 0, 0), NONE);
        check.due("the first again", x.flight(2, 33), 0);
        for (int what = 1; what <= 7; what++) {
            check.due("as new", x.of(0, 1, what), 0);
        }
        check.due("the second again", x.flight(2, 33), 1);
    }

    private static void tellForThought(StairRegiment x, int v) {
        x.suspect(v, 1);
        x.suspect(100 + v, v);
        x.signer(v == 1 ? 123 : 3210);
        x.drill(v == 1 ? 12345670 : 76543210);
        x.calls(v);
        x.length(20 + v);
        x.wall(v);
        x.digit(v);
        x.digit(v + 1);
        for (int stair = 1; stair <= 8; stair++) {
            x.coins(stair, 2 * stair + v);
        }
    }

    private static void taken(StairRegiment x) {
        house(x);
        deeds(x);
        tellForThought(x, 1);
        x.image(true);
    }

    private static void changed(StairRegiment x) {
        x.flight(16, 40);
        x.set(0, 0, 0, 40);
        x.set(1, 0, 1, 90);
        x.set(2, 0, 2, 9);
        x.set(3, 0, 3, 9);
        x.order(2, 1, 0);
        x.order(3, 1, 1);
        x.visit(0, true, 200, 1);
        Check.tell(x, 0, "creaks 500;wears 1;rises 4;");
        Check.tell(x, 1, "");
        Check.tell(x, 2, "on 3 flight 2 up weight 1 stride 1;");
        Check.tell(x, 3, "flight 2 step 15 door 0 step 0;flight 2 step 15 door 1 step 0;");
        x.state(4711);
        x.nights(5);
        x.suspect(NONE, 0);
        x.signer(NONE);
        x.calls(NONE);
        x.length(NONE);
        x.wall(NONE);
        x.digit(NONE);
        tellForThought(x, 2);
    }

    private static String told(Consumer<StairRegiment> recipe) {
        return withoutCount(Seen.standing(recipe)) + Seen.toldForThought(recipe);
    }

    /** "all that is and was told": each part of it. */
    private static void allThatIsAndWasTold() {
        String was = told(EdgeBackTest::taken);
        Consumer<StairRegiment> taken = EdgeBackTest::taken;
        Consumer<StairRegiment> other = taken.andThen(EdgeBackTest::changed);
        check.due("all is another", told(other).equals(was), false);
        same("all is back", told(other.andThen(x -> x.image(false))), was);
    }

    /** "as it was when it was taken": what comes later does not touch it. */
    private static void asItWasWhenItWasTaken() {
        StairRegiment x = new StairRegiment();
        x.flight(1, 10);
        x.order(6, 0, 0);
        x.image(true);
        for (int i = 0; i < 5; i++) {
            x.order(6, 0, 0);
        }
        check.due("LOOSE", x.of(0, 0, 2), 6);
        x.image(false);
        check.due("LOOSE", x.of(0, 0, 2), 1);
        check.due("the order stays undone", x.undo(), false);
    }

    /** "gone back to it may be more than once". */
    private static void goneBackMoreThanOnce() {
        String was = told(((Consumer<StairRegiment>) EdgeBackTest::taken).andThen(x -> x.image(false)));
        Consumer<StairRegiment> way = EdgeBackTest::taken;
        for (int i = 1; i <= 3; i++) {
            way = way.andThen(EdgeBackTest::changed).andThen(x -> check.due("gone back", x.image(false), true));
            same("time " + i, told(way), was);
        }
        way = way.andThen(x -> check.due("gone back at once again", x.image(false), true));
        same("at once again", told(way), was);
    }

    private static void theLaterImage() {
        StairRegiment x = new StairRegiment();
        x.nights(1);
        check.due("taken", x.image(true), true);
        x.nights(1);
        check.due("taken again", x.image(true), true);
        x.nights(1);
        x.image(false);
        check.due("the later one", x.look(3), 2);
        x.nights(1);
        x.image(false);
        check.due("the later one", x.look(3), 2);
    }

    /** "but the TAPE, fault()". */
    private static void notTheTape() {
        StairRegiment x = new StairRegiment();
        Check.feed(x, "creaks 5;wears 6;");
        x.image(true);
        x.end(9);
        x.image(false);
        check.due("the TAPE as it is", x.end(10), false);
        check.due("the TAPE as it is", x.text(0), 1);
        x.image(false);
        check.due("THE LAW goes back", x.look(6), 0);
        check.due("the TAPE stays empty", x.end(1), false);
        Check.tell(x, 0, "creaks 1/0;");
        x.image(true);
        check.due("taken: fault() stays", x.fault(0) * 100 + x.fault(1), 209);
        Check.tell(x, 0, "creaks");
        x.image(false);
        check.due("fault() as it is", x.fault(0) * 100 + x.fault(1), 106);
        Check.tell(x, 0, "");
        x.image(false);
        check.due("fault() as it is", x.fault(0), 0);
        check.due("fault() as it is", x.fault(1), NONE);
        Check.feed(x, "rises 8;");
        x.image(false);
        check.due("the TAPE stays", x.end(8), true);
    }

    /** "and what can be undone (nothing then)". */
    private static void nothingToUndoThen() {
        StairRegiment x = new StairRegiment();
        x.nights(3);
        x.image(true);
        x.nights(2);
        check.due("five", x.look(10), 5);
        x.image(false);
        check.due("nothing", x.look(10), 0);
        check.due("nothing", x.undo(), false);
        check.due("NIGHT", x.look(3), 3);
        x.nights(1);
        check.due("one", x.look(10), 1);
        x.undo();
        check.due("NIGHT", x.look(3), 3);
    }

    /** "(the taking of THE IMAGE does not)". */
    private static void takingDoesNotForget() {
        StairRegiment x = new StairRegiment();
        x.nights(3);
        for (int i = 0; i < 3; i++) {
            check.due("taken", x.image(true), true);
            check.due("three", x.look(10), 3);
        }
        check.due("undo", x.undo(), true);
        check.due("NIGHT", x.look(3), 2);
    }

    /** UNDO goes back beyond the taking of THE IMAGE, which stays as it was. */
    private static void undoneBehindTheImage() {
        StairRegiment x = new StairRegiment();
        x.nights(3);
        x.image(true);
        x.undo();
        x.undo();
        check.due("NIGHT", x.look(3), 1);
        x.image(false);
        check.due("NIGHT of THE IMAGE", x.look(3), 3);
        check.due("nothing to undo", x.undo(), false);
    }
}
