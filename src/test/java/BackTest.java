import java.util.ArrayDeque;
import java.util.Random;

/** Promises 41 and 42: UNDO and THE IMAGE. */
public final class BackTest {
    private static final Check check = new Check("BackTest");
    private static final int NONE = StairRegiment.NONE;

    public static void main(String[] args) {
        whatForgets();
        whatDoesNotForget();
        sixAreKept();
        undoGivesAllBack();
        imageHoldsAll();
        imageIsNotTheTape();
        for (int seed = 0; seed < 60; seed++) {
            byChance(seed);
        }
        check.finish();
    }

    private static StairRegiment house() {
        StairRegiment x = new StairRegiment();
        x.flight(4, 10);
        x.flight(2, 12);
        x.order(1, 0, 0);
        x.visit(0, true, 30, 1);
        x.nights(1);
        check.due("what can be undone", x.look(10), 3);
        return x;
    }

    private static void whatForgets() {
        for (int way = 0; way < 7; way++) {
            StairRegiment x = house();
            x.image(true);
            switch (way) {
                case 0 -> x.state(x.look(5));
                case 1 -> x.flight(1, 10);
                case 2 -> x.set(3, 0, 0, 1);
                case 3 -> Check.tell(x, 1, "on 0 flight 0 step 0 watch;");
                case 4 -> Check.tell(x, 2, "");
                case 5 -> Check.tell(x, 1, "");
                default -> x.image(false);
            }
            check.due("way " + way + " forgets", x.look(10), 0);
            check.due("way " + way + " forgets", x.undo(), false);
        }
    }

    private static void whatDoesNotForget() {
        StairRegiment x = house();
        Check.tell(x, 0, "creaks 5;");
        Check.tell(x, 3, "flight 0 step 0 door 1 step 0;");
        Check.tell(x, 0, "");
        Check.tell(x, 3, "");
        Check.tell(x, 1, "on 0 flight 9");
        Check.tell(x, 2, "on 0 flight 9");
        x.text(4);
        x.feed(0, 0, 0, 0, 0);
        x.end(0);
        x.suspect(5, 5);
        x.suspect(NONE, 0);
        x.signer(123);
        x.drill(12345670);
        x.calls(5);
        x.length(5);
        x.wall(5);
        x.digit(5);
        x.coins(5, 5);
        x.image(true);
        x.goes(5, 0);
        x.flight(0, 0);
        x.set(0, 0, 0, 0);
        x.set(9, 0, 0, 0);
        x.order(7, 0, 0);
        x.visit(0, true, 0, 0);
        x.nights(0);
        check.due("none forgets", x.look(10), 3);
        check.due("undo", x.undo(), true);
        check.due("undo", x.undo(), true);
        check.due("undo", x.undo(), true);
        check.due("undo", x.undo(), false);
        check.due("post", x.of(0, 0, 4), 0);
        check.due("what is told for thought stays", x.drilled(1, 0), 1);
        StairRegiment y = house();
        check.due("no image, nothing forgotten", y.image(false), false);
        check.due("what can be undone", y.look(10), 3);
        Check.tell(y, 0, "creaks 1;wears 2;");
        y.undo();
        check.due("the law stays", y.look(6), 2);
    }

    private static void sixAreKept() {
        StairRegiment x = new StairRegiment();
        x.nights(60);
        check.due("six", x.look(10), 6);
        for (int i = 1; i <= 6; i++) {
            check.due("undo", x.undo(), true);
            check.due("night", x.look(3), 60 - i);
            check.due("left", x.look(10), 6 - i);
        }
        check.due("no seventh", x.undo(), false);
        check.due("night", x.look(3), 54);
        x.nights(4);
        x.undo();
        x.nights(1);
        x.nights(1);
        check.due("five", x.look(10), 5);
        for (int i = 1; i <= 5; i++) {
            x.undo();
            check.due("night", x.look(3), 59 - i);
        }
        check.due("nothing", x.undo(), false);
    }

    private static String seen(StairRegiment x) {
        StringBuilder all = new StringBuilder();
        for (int what = 0; what <= 9; what++) {
            all.append(x.look(what)).append(' ');
        }
        for (int f = 0; f < x.look(0); f++) {
            for (int s = 0; x.of(f, s, 0) != NONE; s++) {
                for (int what = 0; what <= 9; what++) {
                    all.append(x.of(f, s, what)).append(' ');
                }
                all.append(x.creaks(f, s, 77, 3)).append(' ').append(x.wears(f, s, 77, 3)).append(' ');
            }
            all.append(x.mutiny(f, 1)).append(' ').append(x.who(f, 0, 0)).append(x.who(f, 1, 0)).append(' ');
        }
        for (int i = 0; i < x.look(4); i++) {
            for (int what = 0; what < 4; what++) {
                all.append(x.book(i, what)).append(' ');
            }
        }
        for (int what = 0; what < 4; what++) {
            all.append(x.goes(7, what)).append(' ');
        }
        return all.toString();
    }

    private static String toldForThought(StairRegiment x) {
        StringBuilder all = new StringBuilder();
        for (int what = 0; what < 3; what++) {
            all.append(x.signs(what)).append(' ');
        }
        for (int p = 0; p < 8; p++) {
            all.append(x.drilled(1, p));
        }
        all.append(' ').append(x.missing(0)).append(x.missing(1)).append(' ').append(x.runner(40, 0)).append(x.runner(40, 1));
        all.append(' ').append(x.ramp(5, 20)).append(' ').append(x.game(0)).append(x.game(1)).append(' ');
        for (int what = 0; what <= 11; what++) {
            all.append(x.cellar(what)).append(' ');
        }
        all.append(x.ramp(9, 1)).append(x.ramp(4, 5)).append(' ');
        for (int f = 0; f < 2 && f < x.look(0); f++) {
            for (int set = 0; set < 4; set++) {
                all.append(x.who(f, set, 0)).append(' ');
            }
        }
        return all.toString();
    }

    private static void same(String what, String got, String want) {
        check.due(what + " (" + got + " for " + want + ")", got.equals(want), true);
    }

    private static void undoGivesAllBack() {
        StairRegiment x = new StairRegiment();
        x.flight(3, 10);
        Check.tell(x, 0, "creaks 900;wears 7;rises 2;");
        Check.tell(x, 2, "on 0 flight 0 up weight 50 stride 1;on 0 flight 0 up weight 50 stride 1;on 0 flight 0 up weight 50 stride 1;");
        Check.tell(x, 1, "on 0 flight 0 step 1 desert;on 0 flight 0 step 2 carpet;on 0 flight 0 step 0 loosen;");
        String was = seen(x);
        x.nights(1);
        check.due("a night was", was.equals(seen(x)), false);
        x.undo();
        same("a night is undone", seen(x), was);
        // the promotion is forgotten, too
        x.nights(1);
        int rank = x.of(0, 0, 3);
        x.undo();
        x.nights(1);
        check.due("promoted again", x.of(0, 0, 3), rank);
        check.due("rank", rank > 0, true);
    }

    private static void imageHoldsAll() {
        StairRegiment x = house();
        Check.tell(x, 0, "creaks 500 when stride=1 and weight=100;creaks 5*number;");
        Check.tell(x, 1, "on 3 flight 0 step 1 leave;");
        Check.tell(x, 2, "on 3 flight 0 up weight 9 stride 1;");
        Check.tell(x, 3, "flight 0 step 1 door 1 step 1;");
        tellForThought(x, 1);
        String was = seen(x);
        String told = toldForThought(x);
        check.due("image", x.image(true), true);
        for (int round = 0; round < 2; round++) {
            x.flight(3, 33);
            x.set(0, 0, 0, 40);
            x.state(99);
            x.order(2, 0, 3);
            x.visit(1, false, 200, 1);
            x.nights(5);
            Check.tell(x, 0, "creaks 1000;wears 3;");
            Check.tell(x, 1, "");
            Check.tell(x, 2, "");
            Check.tell(x, 3, "");
            tellForThought(x, 2);
            check.due("all is another", was.equals(seen(x)) || told.equals(toldForThought(x)), false);
            check.due("gone back", x.image(false), true);
            same("all is as it was", seen(x), was);
            same("all that was told is as it was", toldForThought(x), told);
            check.due("nothing can be undone", x.look(10), 0);
        }
        x.nights(1);
        x.image(true);
        x.nights(1);
        x.image(false);
        check.due("the later image counts", x.look(3), 2);
    }

    /** In each kind another count and other numbers by v. */
    private static void tellForThought(StairRegiment x, int v) {
        x.suspect(NONE, 0);
        for (int i = 0; i < v; i++) {
            x.suspect(100 * v, v);
        }
        x.signer(NONE);
        x.signer(v == 1 ? 123 : 3210);
        x.drill(v == 1 ? 12345670 : 76543210);
        x.calls(NONE);
        x.calls(v);
        x.length(NONE);
        x.length(30 * v);
        x.wall(NONE);
        x.wall(v);
        x.wall(9 * v - 5);
        x.digit(NONE);
        x.digit(v);
        x.digit(3);
        if (v == 2) {
            x.wall(NONE);
            x.digit(4);
            x.calls(0);
            x.length(20);
            x.signer(123);
        }
        x.coins(1, v);
        x.coins(4, 3 * v);
    }

    private static void imageIsNotTheTape() {
        StairRegiment x = house();
        Check.feed(x, "creaks 5;");
        x.image(true);
        x.end(3);
        check.due("gone back", x.image(false), true);
        check.due("the tape stays", x.end(4), false);
        check.due("the tape stays", x.end(3), true);
        check.due("a fault", x.text(0), NONE);
        x.image(false);
        check.due("fault() stays", x.fault(0), 1);
        check.due("fault() stays", x.fault(1), 0);
        check.due("the tape stays empty", x.end(1), false);
    }

    private static void byChance(int seed) {
        Random random = new Random(seed);
        StairRegiment x = new StairRegiment();
        x.flight(1 + random.nextInt(16), 10);
        x.flight(1 + random.nextInt(16), 20);
        Check.tell(x, 0, seed % 2 == 0 ? "creaks 600;rises 2;" : "creaks 100+heard*50;wears 9;");
        Check.tell(x, 2, "on 1 flight 0 up weight 90 stride 1;on 2 flight 1 down weight 90 stride 2;on 3 flight 0 up weight 10 stride 1;");
        Check.tell(x, 1, "on 1 flight 0 step 0 leave;on 3 flight 1 step 0 desert;");
        x.state(random.nextInt());
        ArrayDeque<String> past = new ArrayDeque<>();
        String image = null;
        for (int i = 0; i < 60; i++) {
            int way = random.nextInt(12);
            if (way < 6) {
                past.addLast(seen(x));
                boolean done = way < 2 ? x.order(random.nextInt(7), random.nextInt(2), 0)
                    : way < 4 ? x.visit(random.nextInt(2), way == 2, 1 + random.nextInt(200), 1 + random.nextInt(5)) >= 0 : x.nights(1) >= 0;
                check.due("a deed", done, true);
                if (past.size() > 6) {
                    past.removeFirst();
                }
            } else if (way < 10) {
                String due = past.pollLast();
                check.due("undo", x.undo(), due != null);
                if (due != null) {
                    same("undone", seen(x), due);
                }
            } else if (way == 10 && random.nextInt(3) == 0) {
                x.image(true);
                image = seen(x);
            } else if (way == 11 && image != null && random.nextInt(3) == 0) {
                x.image(false);
                same("gone back", seen(x), image);
                past.clear();
            }
            check.due("what can be undone", x.look(10), past.size());
        }
    }
}
