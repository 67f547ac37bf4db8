import java.util.ArrayList;
import java.util.List;
import java.util.function.Consumer;
import java.util.function.ToLongFunction;

/**
 * Every call that can be refused, of a house without stairs, of one in use and of one that is full: it answers NONE
 * or false, and all that can be seen is as it was. And every call that only asks leaves all as it was.
 */
public final class RefusedTest {
    private static final Check check = new Check("RefusedTest");
    private static final int NONE = StairRegiment.NONE;
    private static final int MIN = Integer.MIN_VALUE;
    private static final int MAX = Integer.MAX_VALUE;

    private record Call(String name, ToLongFunction<StairRegiment> made, long due) { }

    public static void main(String[] args) {
        everywhere("bare", RefusedTest::bare, refusedWithoutFlights(), 0);
        everywhere("used", RefusedTest::used, refusedAnywhere(), 3);
        everywhere("used", RefusedTest::used, refusedOfTwoFlights(), 3);
        everywhere("full", RefusedTest::full, refusedAnywhere(), 6);
        everywhere("full", RefusedTest::full, refusedWhenFull(), 6);
        everywhere("at the last night", RefusedTest::lastNight, refusedAtTheLastNight(), 6);
        asking("bare", RefusedTest::bare);
        asking("used", RefusedTest::used);
        asking("full", RefusedTest::full);
        check.finish();
    }

    private static void everywhere(String house, Consumer<StairRegiment> recipe, List<Call> calls, int undos) {
        String was = Seen.all(recipe);
        StairRegiment y = new StairRegiment();
        recipe.accept(y);
        check.due("what can be undone, " + house, y.look(10), undos);
        for (Call call : calls) {
            StairRegiment x = new StairRegiment();
            recipe.accept(x);
            check.due(call.name + ", " + house, call.made.applyAsLong(x), call.due);
            String is = Seen.all(recipe.andThen(call.made::applyAsLong));
            check.due(call.name + " leaves all as it was, " + house, is.equals(was), true);
        }
    }

    // ---- houses

    private static void bare(StairRegiment x) {
        // nothing is told
    }

    /** Two flights, each text, each kind of telling, an image that is another, a tape and a fault. */
    private static void used(StairRegiment x) {
        x.flight(3, 10);
        x.flight(2, 20);
        Check.tell(x, 0, "creaks 300+50*number;wears 2;rises 3;");
        x.suspect(100, 1);
        x.signer(3120);
        x.drill(12345670);
        x.calls(0);
        x.length(9);
        x.wall(2);
        x.digit(3);
        x.digit(7);
        x.coins(3, 5);
        x.state(77);
        x.order(1, 1, 0);
        x.image(true);
        Check.tell(x, 1, "on 1 flight 0 step 2 desert;");
        Check.tell(x, 2, "on 1 flight 0 up weight 90 stride 1;on 2 flight 1 down weight 9 stride 1;");
        Check.tell(x, 3, "flight 0 step 2 door 1 step 0;");
        x.state(-5);
        x.order(6, 0, 1);
        x.visit(0, true, 150, 1);
        x.nights(1);
        x.suspect(200, 2);
        x.calls(5);
        x.wall(4);
        x.coins(1, 2);
        Check.tell(x, 0, "wears 4;creaks 1/0;");
        Check.feed(x, "creaks 9;wears 8;rises 7;");
    }

    /** Six flights, a full book, a full tape, six deeds, and as much told as can be. */
    private static void full(StairRegiment x) {
        for (int f = 0; f < 6; f++) {
            x.flight(f == 0 ? 16 : f, 5 + f);
        }
        Check.tell(x, 0, "creaks 1000 when weight>50;creaks 0;");
        Check.tell(x, 3, "flight0step0door1step0;".repeat(16));
        for (int i = 0; i < 10; i++) {
            x.visit(0, i % 2 == 0, i == 3 ? 40 : 60, 1);
        }
        for (int i = 0; i < 8; i++) {
            x.suspect(200 - 20 * i, 1 + i % 5);
            x.wall(i);
            x.coins(1 + i, 20 - i);
        }
        for (int i = 0; i < 7; i++) {
            x.signer(i % 2 == 0 ? 123 : 3210);
            x.length(60 - i);
        }
        for (int i = 0; i < 12; i++) {
            x.calls(i % 5);
        }
        for (int i = 0; i < 10; i++) {
            x.digit(i);
        }
        x.image(true);
        for (int i = 0; i < 20; i++) {
            x.feed(0x20202020, 0x20202020, 0x20202020, 0x20202020, 0x20202020);
        }
    }

    private static void lastNight(StairRegiment x) {
        x.flight(2, 10);
        for (int i = 0; i < 166; i++) {
            x.nights(60);
        }
        x.nights(20);
        check.due("night", x.look(3), 9980);
    }

    // ---- calls that are refused

    private static void no(List<Call> calls, String name, ToLongFunction<StairRegiment> made) {
        calls.add(new Call(name, made, NONE));
    }

    private static void not(List<Call> calls, String name, java.util.function.Predicate<StairRegiment> made) {
        calls.add(new Call(name, x -> made.test(x) ? 1 : 0, 0));
    }

    private static List<Call> refusedWithoutFlights() {
        List<Call> calls = new ArrayList<>();
        for (int what = 0; what <= 3; what++) {
            int w = what;
            not(calls, "set " + w, x -> x.set(w, 0, 0, 5));
        }
        for (int what = 0; what <= 6; what++) {
            int w = what;
            not(calls, "order " + w, x -> x.order(w, 0, 0));
        }
        no(calls, "visit up", x -> x.visit(0, true, 1, 1));
        no(calls, "visit down", x -> x.visit(0, false, 1, 1));
        no(calls, "of", x -> x.of(0, 0, 0));
        no(calls, "creaks", x -> x.creaks(0, 0, 1, 1));
        no(calls, "wears", x -> x.wears(0, 0, 1, 1));
        no(calls, "book", x -> x.book(0, 0));
        no(calls, "unheard", x -> x.unheard(0, 1, 1, 0));
        no(calls, "who", x -> x.who(0, 0, 0));
        no(calls, "roster", x -> x.roster(0, 1, 0));
        no(calls, "joined", x -> x.joined(0, 0, 0));
        no(calls, "mutiny", x -> x.mutiny(0, 0));
        no(calls, "fewest", x -> x.mutiny(0, NONE));
        not(calls, "undo", x -> x.undo());
        not(calls, "image(false)", x -> x.image(false));
        not(calls, "end(1)", x -> x.end(1));
        calls.addAll(refusedAnywhere());
        return calls;
    }

    /** What can't be in any house. */
    private static List<Call> refusedAnywhere() {
        List<Call> calls = new ArrayList<>();
        for (int[] f : new int[][] {{0, 10}, {-1, 10}, {17, 10}, {MIN, 10}, {MAX, 10}, {5, 4}, {5, 41}, {5, 0}, {5, -5}, {5, MIN}, {5, MAX}}) {
            no(calls, "flight " + f[0] + " " + f[1], x -> x.flight(f[0], f[1]));
        }
        for (int v : new int[] {-1, 0, 61, MIN, MAX}) {
            no(calls, "nights " + v, x -> x.nights(v));
            no(calls, "goes " + v, x -> x.goes(v, 0));
        }
        for (int v : new int[] {-1, 401, MIN, MAX}) {
            not(calls, "end " + v, x -> x.end(v));
        }
        for (int[] s : new int[][] {{0, 1}, {201, 1}, {-2, 1}, {MIN, 1}, {MAX, 1}, {1, 0}, {1, 6}, {1, NONE}, {1, MIN}, {1, MAX}}) {
            no(calls, "suspect " + s[0] + " " + s[1], x -> x.suspect(s[0], s[1]));
        }
        for (int v : new int[] {-2, 0, 12, 122, 124, 3333, 10123, 12345, MIN, MAX}) {
            no(calls, "signer " + v, x -> x.signer(v));
        }
        for (int v : new int[] {NONE, -1234567, 0, 123456, 1234566, 1234568, 12345678, 101234567, MIN, MAX}) {
            not(calls, "drill " + v, x -> x.drill(v));
        }
        for (int v : new int[] {-2, 16, MIN, MAX}) {
            no(calls, "calls " + v, x -> x.calls(v));
        }
        for (int v : new int[] {-2, 0, 61, MIN, MAX}) {
            no(calls, "length " + v, x -> x.length(v));
        }
        for (int v : new int[] {-2, 100, MIN, MAX}) {
            no(calls, "wall " + v, x -> x.wall(v));
        }
        for (int v : new int[] {-2, 10, MIN, MAX}) {
            no(calls, "digit " + v, x -> x.digit(v));
        }
        for (int[] c : new int[][] {{0, 1}, {9, 1}, {-1, 1}, {MIN, 1}, {MAX, 1}, {1, -1}, {1, 21}, {8, 21}, {1, MIN}, {1, MAX}}) {
            not(calls, "coins " + c[0] + " " + c[1], x -> x.coins(c[0], c[1]));
        }
        return calls;
    }

    /** Of flights of 3 and 2 STEPS. */
    private static List<Call> refusedOfTwoFlights() {
        List<Call> calls = new ArrayList<>();
        int[][] nobodies = {{2, 0}, {-1, 0}, {6, 0}, {MIN, 0}, {MAX, 0}, {0, 3}, {1, 2}, {0, -1}, {0, 16}, {0, MIN}, {0, MAX}};
        for (int[] n : nobodies) {
            not(calls, "set at " + n[0] + " " + n[1], x -> x.set(1, n[0], n[1], 7));
            not(calls, "order at " + n[0] + " " + n[1], x -> x.order(2, n[0], n[1]));
        }
        int[][] bounds = {{5, 40}, {0, 99}, {0, 9}, {0, 9}};
        for (int what = 0; what < 4; what++) {
            for (int v : new int[] {bounds[what][0] - 1, bounds[what][1] + 1, MIN, MAX}) {
                int w = what;
                not(calls, "set " + w + " to " + v, x -> x.set(w, 0, 0, v));
            }
        }
        for (int what : new int[] {-1, 4, 5, 6, 7, 8, MIN, MAX}) {
            not(calls, "set what " + what, x -> x.set(what, 0, 0, 6));
        }
        for (int what : new int[] {-1, 7, MIN, MAX}) {
            not(calls, "order what " + what, x -> x.order(what, 0, 0));
        }
        int[][] visits = {{2, 1, 1}, {-1, 1, 1}, {MAX, 1, 1}, {0, 0, 1}, {0, 201, 1}, {0, -1, 1}, {0, MAX, 1}, {0, 1, 0}, {0, 1, 6}, {0, 1, -1}, {0, 1, MIN}};
        for (int[] v : visits) {
            no(calls, "visit up " + v[0] + " " + v[1] + " " + v[2], x -> x.visit(v[0], true, v[1], v[2]));
            no(calls, "visit down " + v[0] + " " + v[1] + " " + v[2], x -> x.visit(v[0], false, v[1], v[2]));
        }
        not(calls, "end beyond the tape", x -> x.end(26));
        return calls;
    }

    private static List<Call> refusedWhenFull() {
        List<Call> calls = new ArrayList<>();
        no(calls, "a seventh flight", x -> x.flight(1, 5));
        no(calls, "a tape of 420", x -> x.feed(0, 0, 0, 0, 0));
        no(calls, "a ninth suspect", x -> x.suspect(1, 1));
        no(calls, "an eighth signer", x -> x.signer(123));
        no(calls, "a thirteenth number", x -> x.calls(15));
        no(calls, "an eighth length", x -> x.length(1));
        no(calls, "a ninth wall", x -> x.wall(0));
        no(calls, "an eleventh digit", x -> x.digit(0));
        return calls;
    }

    private static List<Call> refusedAtTheLastNight() {
        List<Call> calls = new ArrayList<>();
        no(calls, "nights to 10000", x -> x.nights(20));
        no(calls, "nights to 10040", x -> x.nights(60));
        return calls;
    }

    // ---- calls that only ask

    private static void asking(String house, Consumer<StairRegiment> recipe) {
        String was = Seen.all(recipe);
        Consumer<StairRegiment> asked = recipe.andThen(RefusedTest::askOfStairs);
        check.due("asking of stairs leaves all as it was, " + house, Seen.all(asked).equals(was), true);
        asked = recipe.andThen(RefusedTest::askInThought);
        check.due("thought leaves all as it was, " + house, Seen.all(asked).equals(was), true);
        asked = recipe.andThen(RefusedTest::askRiddles);
        check.due("riddles leave all as it was, " + house, Seen.all(asked).equals(was), true);
    }

    private static void askOfStairs(StairRegiment x) {
        for (int what = -1; what <= 11; what++) {
            x.look(what);
            x.of(0, 0, what);
            x.fault(what);
            x.book(0, what);
        }
        x.creaks(0, 0, 200, 5);
        x.wears(0, 0, 200, 5);
        x.creaks(0, 0, 0, 5);
        x.wears(0, 99, 200, 5);
    }

    private static void askInThought(StairRegiment x) {
        for (int what = -1; what <= 4; what++) {
            x.goes(60, what);
            x.goes(0, what);
            x.unheard(0, 100, 3, what);
            x.who(0, 0, what);
            x.who(0, 7, what);
            x.roster(0, 2, what);
            x.joined(0, 1, what);
        }
        x.mutiny(0, 1);
        x.mutiny(0, NONE);
    }

    private static void askRiddles(StairRegiment x) {
        for (int what = -1; what <= 12; what++) {
            x.signs(what);
            x.drilled(5, what);
            x.spiral(5, what);
            x.missing(what);
            x.runner(60, what);
            x.ramp(what, 9);
            x.box(10203, 304, what);
            x.cellar(what);
            x.game(what);
        }
        x.between(102, 203);
        x.winds(3, 4);
    }
}
