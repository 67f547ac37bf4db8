import java.util.function.Consumer;

/**
 * All that can be seen of an object that was made by a recipe. The recipe is run again for each part of what is
 * seen, so that no object comes near its 512th call and nothing that looking changes is looked at afterwards.
 */
final class Seen {
    private static final int NONE = StairRegiment.NONE;

    private Seen() {
    }

    /** What stands, what is told for thought, the TAPE, fault(), each UNDO and THE IMAGE. */
    static String all(Consumer<StairRegiment> recipe) {
        StringBuilder seen = new StringBuilder();
        seen.append(standing(recipe)).append(toldForThought(recipe)).append(tapeAndFault(recipe));
        int undos = made(recipe).look(10);
        for (int i = 1; i <= undos; i++) {
            int times = i;
            seen.append("\nundone ").append(i).append(' ').append(standing(recipe.andThen(x -> undo(x, times))));
        }
        Consumer<StairRegiment> gone = recipe.andThen(x -> x.image(false));
        seen.append("\nimage ").append(standing(gone)).append(toldForThought(gone));
        return seen.toString();
    }

    private static void undo(StairRegiment x, int times) {
        for (int i = 0; i < times; i++) {
            x.undo();
        }
    }

    private static StairRegiment made(Consumer<StairRegiment> recipe) {
        StairRegiment x = new StairRegiment();
        recipe.accept(x);
        return x;
    }

    /** What UNDO and THE IMAGE give back. */
    static String standing(Consumer<StairRegiment> recipe) {
        StringBuilder seen = new StringBuilder();
        StairRegiment x = made(recipe);
        for (int what = 0; what <= 10; what++) {
            seen.append(x.look(what)).append(' ');
        }
        for (int n : new int[] {1, 2, 5}) {
            for (int what = 0; what < 4; what++) {
                seen.append(x.goes(n, what)).append(' ');
            }
        }
        int flights = x.look(0);
        for (int f = 0; f < flights; f++) {
            seen.append("\nflight ").append(f).append(' ');
            flight(made(recipe), f, seen);
        }
        int lines = x.look(4);
        for (int from = 0; from < lines; from += 50) {
            StairRegiment y = made(recipe);
            for (int i = from; i < from + 50; i++) {
                seen.append("\nline ");
                for (int what = 0; what < 4; what++) {
                    seen.append(y.book(i, what)).append(' ');
                }
            }
        }
        return seen.toString();
    }

    private static void flight(StairRegiment x, int f, StringBuilder seen) {
        for (int s = 0; s <= 16; s++) {
            for (int what = 0; what <= 9; what++) {
                seen.append(x.of(f, s, what)).append(' ');
            }
            seen.append(x.creaks(f, s, 77, 3)).append(' ').append(x.wears(f, s, 77, 3)).append(' ');
            seen.append(x.mutiny(f, 1 << s)).append(' ').append(x.who(f, 1 << s, 0)).append(' ');
        }
        seen.append(x.mutiny(f, NONE)).append(' ').append(x.who(f, 0, 0)).append(' ').append(x.who(f, 0, 1)).append(' ');
    }

    /** What was told for WHO, BLIND, DRILL, MISSING, RUNNER, RAMP, CELLAR and GAME. */
    static String toldForThought(Consumer<StairRegiment> recipe) {
        StringBuilder seen = new StringBuilder("\ntold ");
        StairRegiment x = made(recipe);
        for (int what = 0; what <= 2; what++) {
            seen.append(x.signs(what)).append(' ');
        }
        for (int p = NONE; p < 8; p++) {
            seen.append(x.drilled(1, p)).append(' ');
        }
        for (int what = 0; what <= 1; what++) {
            seen.append(x.missing(what)).append(' ').append(x.game(what)).append(' ');
        }
        for (int r = 1; r <= 120; r += 7) {
            seen.append(x.runner(r, 0)).append(' ').append(x.runner(r, 1)).append(' ');
        }
        for (int h = 0; h <= 99; h += 3) {
            seen.append(x.ramp(1, h)).append(' ').append(x.ramp(2, h)).append(' ').append(x.ramp(9, h)).append(' ');
        }
        for (int what = 0; what <= 11; what++) {
            seen.append(x.cellar(what)).append(' ');
        }
        // how many of each there are is seen by one more
        StairRegiment y = made(recipe);
        seen.append(y.suspect(1, 1)).append(' ').append(y.signer(123)).append(' ').append(y.calls(0)).append(' ');
        seen.append(y.length(1)).append(' ').append(y.wall(0)).append(' ').append(y.digit(0)).append(' ');
        for (int stair = 1; stair <= 7; stair += 2) {
            seen.append(coinsOn(made(recipe), stair)).append(' ');
        }
        return seen.toString();
    }

    /** The coins of a stair with an odd number, for which all others are taken away. */
    private static int coinsOn(StairRegiment x, int stair) {
        for (int other = 1; other <= 8; other++) {
            if (other != stair) {
                x.coins(other, 0);
            }
        }
        return x.game(1);
    }

    static String tapeAndFault(Consumer<StairRegiment> recipe) {
        StringBuilder seen = new StringBuilder("\ntape ");
        StairRegiment x = made(recipe);
        for (int what = 0; what <= 1; what++) {
            seen.append(x.fault(what)).append(' ');
        }
        seen.append(tapeSize(x)).append(' ');
        for (int k = 0; k <= 3; k++) {
            StairRegiment y = made(recipe);
            seen.append(y.text(k)).append(' ').append(y.fault(0)).append(' ').append(y.fault(1)).append(' ');
            seen.append(y.creaks(0, 0, 77, 3)).append(' ').append(y.wears(0, 0, 77, 3)).append(' ').append(y.of(0, 0, 8)).append(' ');
        }
        return seen.toString();
    }

    /** By one feed more; where that is refused, by end(). */
    private static int tapeSize(StairRegiment x) {
        int fed = x.feed(0, 0, 0, 0, 0);
        if (fed != NONE) {
            return fed - 20;
        }
        int size = 400;
        while (size > 0 && !x.end(size)) {
            size--;
        }
        return size;
    }
}
