import java.util.HashSet;
import java.util.Random;
import java.util.Set;
import java.util.TreeSet;

/** Promises 17 to 20, 23 and 24: thoughts about flights, against trying all ways out. */
public final class StairThoughtTest {
    private static final Check check = new Check("StairThoughtTest");
    private static final int NONE = StairRegiment.NONE;
    private static final Random random = new Random(7);

    public static void main(String[] args) {
        wrongCalls();
        suspects();
        edges();
        for (int round = 0; round < 300; round++) {
            byChance();
        }
        check.finish();
    }

    private static void wrongCalls() {
        StairRegiment x = new StairRegiment();
        check.due("unheard without flights", x.unheard(0, 5, 1, 0), NONE);
        check.due("who without flights", x.who(0, 0, 0), NONE);
        check.due("roster without flights", x.roster(0, 1, 0), NONE);
        check.due("joined without flights", x.joined(0, 0, 0), NONE);
        check.due("mutiny without flights", x.mutiny(0, 0), NONE);
        check.due("fewest without flights", x.mutiny(0, NONE), NONE);
        x.flight(3, 10);
        x.flight(16, 10);
        int[][] unheards = {{0, 0, 1, 0}, {0, 201, 1, 0}, {0, 1, 0, 0}, {0, 1, 6, 0}, {0, 1, 1, 2}, {0, 1, 1, -1}, {2, 1, 1, 0}, {-1, 1, 1, 0}};
        for (int[] u : unheards) {
            check.due("wrong unheard", x.unheard(u[0], u[1], u[2], u[3]), NONE);
        }
        int[][] whos = {{0, 8, 0}, {0, -1, 0}, {0, 0, 2}, {0, 0, -1}, {2, 0, 0}, {-1, 0, 0}, {1, 65536, 0}, {0, Integer.MIN_VALUE, 0}};
        for (int[] w : whos) {
            check.due("wrong who", x.who(w[0], w[1], w[2]), NONE);
        }
        check.due("who with all", x.who(1, 65535, 0), 0);
        int[][] rosters = {{0, 0, 0}, {0, 6, 0}, {0, 1, 2}, {0, 1, -1}, {2, 1, 0}, {-1, 1, 0}};
        for (int[] r : rosters) {
            check.due("wrong roster", x.roster(r[0], r[1], r[2]), NONE);
        }
        int[][] joins = {{0, 2, 0}, {2, 0, 0}, {-1, 0, 0}, {0, -1, 0}, {0, 1, 2}, {0, 1, -1}};
        for (int[] j : joins) {
            check.due("wrong joined", x.joined(j[0], j[1], j[2]), NONE);
        }
        int[][] mutinies = {{0, 8}, {0, -2}, {2, 0}, {-1, 0}, {2, -1}, {-1, -1}, {1, 65536}};
        for (int[] m : mutinies) {
            check.due("wrong mutiny", x.mutiny(m[0], m[1]), NONE);
        }
        check.due("nobody begins", x.mutiny(0, 0), 0);
        x.order(2, 0, 1);
        check.due("a missing one begins", x.mutiny(0, 2), NONE);
        check.due("a missing one among others", x.mutiny(0, 3), NONE);
    }

    private static void suspects() {
        StairRegiment x = new StairRegiment();
        check.due("weight 0", x.suspect(0, 1), NONE);
        check.due("weight 201", x.suspect(201, 1), NONE);
        check.due("weight -2", x.suspect(-2, 1), NONE);
        check.due("stride 0", x.suspect(1, 0), NONE);
        check.due("stride 6", x.suspect(1, 6), NONE);
        for (int i = 1; i <= 8; i++) {
            check.due("suspect", x.suspect(i == 1 ? 1 : 200, i == 1 ? 1 : 5), i);
        }
        check.due("ninth", x.suspect(1, 1), NONE);
        x.flight(5, 10);
        check.due("what 2", x.who(0, 0, 2), NONE);
        check.due("what -1", x.who(0, 0, -1), NONE);
        x.set(2, 0, 4, 5);
        check.due("loosen, weight 1 and 200", x.who(0, 0, 1), 4);
        check.due("what 2", x.who(0, 0, 2), NONE);
        x.set(2, 0, 4, 0);
        Check.tell(x, 0, "creaks 500 when weight>100;");
        check.due("who", x.who(0, 16, 0), 254);
        check.due("who", x.who(0, 0, 0), 1);
        check.due("none is then", x.suspect(NONE, 99), 0);
        check.due("who of none", x.who(0, 0, 0), 0);
        check.due("loosen of none", x.who(0, 0, 1), NONE);
        check.due("anew", x.suspect(5, 5), 1);
        // a missing one does not creak, one on leave does
        Check.tell(x, 0, "creaks 500;");
        x.suspect(NONE, 0);
        x.suspect(5, 1);
        x.order(2, 0, 0);
        x.order(1, 0, 1);
        check.due("who", x.who(0, 30, 0), 1);
        check.due("who", x.who(0, 31, 0), 0);
        // at 9 none gets looser
        Check.tell(x, 0, "creaks 500 when loose>8 and stride=2;creaks 0;");
        StairRegiment y = new StairRegiment();
        y.flight(4, 10);
        Check.tell(y, 0, "creaks 500 when loose>8 and stride=2;creaks 0;");
        y.suspect(10, 2);
        y.suspect(10, 1);
        y.set(2, 0, 1, 9);
        y.set(2, 0, 3, 8);
        check.due("fits", y.who(0, 2, 0), 1);
        check.due("one alone tells nothing", y.who(0, 2, 1), NONE);
        y.set(2, 0, 1, 7);
        check.due("fits", y.who(0, 0, 0), 3);
        check.due("loosen", y.who(0, 0, 1), 3);
        y.order(2, 0, 3);
        check.due("a missing one tells nothing", y.who(0, 0, 1), NONE);
        y.order(6, 0, 1);
        check.due("loosen", y.who(0, 0, 1), 1);
        check.due("nothing of it stays", y.of(0, 1, 2), 8);
    }

    private static void edges() {
        StairRegiment x = new StairRegiment();
        x.flight(1, 10);
        check.due("over one STEP", x.unheard(0, 9, 2, 1), 0);
        check.due("one STEP", x.unheard(0, 9, 1, 1), 1);
        x.order(2, 0, 0);
        check.due("can't", x.unheard(0, 9, 1, 1), NONE);
        check.due("over a missing one", x.unheard(0, 9, 2, 0), 0);
        check.due("roster can't be", x.roster(0, 1, 1), NONE);
        check.due("no two side by side", x.roster(0, 2, 0), 0);
        check.due("no two side by side", x.roster(0, 2, 1), 0);
        check.due("all missing: none must begin", x.mutiny(0, NONE), 0);
        x.flight(4, 10);
        check.due("fewer than s: all on leave", x.roster(1, 5, 1), 15);
        check.due("s = 1: none", x.roster(1, 1, 0), 0);
        check.due("s = 4", x.roster(1, 4, 1), 7);
        // two doors between the same two count once
        x.flight(2, 10);
        check.whole(x, 3, "flight 1 step 3 door 2 step 0;flight 2 step 0 door 1 step 3;", 2);
        x.set(3, 2, 0, 2);
        check.due("each once", x.mutiny(1, 8), 4);
        x.set(3, 2, 0, 1);
        check.due("through the door", x.mutiny(1, 8), 6);
        x.set(3, 2, 0, 0);
        check.due("1 at least", x.mutiny(1, 8), 6);
        check.due("back through the door", x.mutiny(2, 2), 6);
        wholeHouse();
        // unheard: the stride by which he came counts
        StairRegiment y = new StairRegiment();
        y.flight(4, 10);
        Check.tell(y, 0, "creaks 500 when stride=2; creaks 499;");
        check.due("by ones", y.unheard(0, 9, 2, 0), 0);
        check.due("by ones, the last by two", y.unheard(0, 9, 2, 1), 3);
        check.due("by three", y.unheard(0, 9, 3, 1), 1);
    }

    private static void wholeHouse() {
        StairRegiment x = new StairRegiment();
        StringBuilder doors = new StringBuilder();
        for (int f = 0; f < 6; f++) {
            x.flight(16, 10);
            if (f > 0) {
                doors.append("flight " + f + " step 0 door " + (f - 1) + " step 15;");
            }
        }
        check.whole(x, 3, doors.toString(), 5);
        check.due("all of the house", x.mutiny(0, 1), 96);
        check.due("all of the house", x.mutiny(5, 1 << 15), 96);
        check.due("all begin", x.mutiny(3, 65535), 96);
        x.order(2, 2, 7);
        check.due("up to the missing one", x.mutiny(0, 1), 39);
    }

    private static void byChance() {
        StairRegiment x = new StairRegiment();
        int flights = 1 + random.nextInt(4);
        int[] sizes = new int[flights];
        String[] laws = {"", "creaks 520-stride*10 when number>2;creaks weight*3+rank*60;", "creaks stride*weight*4+loose*40;"};
        Check.tell(x, 0, laws[random.nextInt(laws.length)]);
        for (int f = 0; f < flights; f++) {
            sizes[f] = 1 + random.nextInt(random.nextInt(4) == 0 ? 16 : 9);
            x.flight(sizes[f], 10);
            for (int s = 0; s < sizes[f]; s++) {
                x.set(0, f, s, 5 + random.nextInt(8));
                x.set(1, f, s, random.nextInt(100));
                x.set(2, f, s, random.nextInt(10));
                x.set(3, f, s, random.nextInt(4));
                if (random.nextInt(5) == 0) {
                    x.order(1 + random.nextInt(2), f, s);
                }
            }
        }
        Set<Integer> doors = tellDoors(x, flights, sizes);
        for (int f = 0; f < flights; f++) {
            checkUnheard(x, f, sizes[f]);
            checkWho(x, f, sizes[f]);
            checkRoster(x, f, sizes[f]);
            checkMutiny(x, f, sizes, doors);
            if (sizes[f] <= 10) {
                check.due("fewest", x.mutiny(f, NONE), plainFewest(x, f, sizes[f]));
            }
            int other = random.nextInt(flights);
            check.due("joined", x.joined(f, other, 0), plainJoined(x, f, 0, sizes[f], other, 0, sizes[other]));
            check.due("level", x.joined(f, other, 1), plainLevel(x, f, sizes[f], other, sizes[other]));
        }
    }

    private static Set<Integer> tellDoors(StairRegiment x, int flights, int[] sizes) {
        Set<Integer> doors = new HashSet<>();
        StringBuilder text = new StringBuilder();
        int lines = 0;
        for (int i = random.nextInt(9); i > 0 && flights > 1; i--) {
            int a = random.nextInt(flights);
            int b = (a + 1 + random.nextInt(flights - 1)) % flights;
            int sa = random.nextInt(sizes[a]);
            int sb = random.nextInt(sizes[b]);
            text.append("flight " + a + " step " + sa + " door " + b + " step " + sb + ";");
            doors.add((a * 100 + sa) * 1000 + b * 100 + sb);
            doors.add((b * 100 + sb) * 1000 + a * 100 + sa);
            lines++;
        }
        check.due("doors", Check.tell(x, 3, text.toString()), lines);
        return doors;
    }

    private static int bestCreaks;
    private static int bestSteps;

    private static void goUp(StairRegiment x, int f, int size, int w, int s, int[] way) {
        int at = way[0];
        for (int k = 1; k <= s; k++) {
            int to = at + k;
            if (to >= size) {
                if (way[1] < bestCreaks || way[1] == bestCreaks && way[2] < bestSteps) {
                    bestCreaks = way[1];
                    bestSteps = way[2];
                }
            } else if (x.of(f, to, 4) != 2) {
                int creak = x.creaks(f, to, w, k) >= 500 ? 1 : 0;
                goUp(x, f, size, w, s, new int[] {to, way[1] + creak, way[2] + 1});
            }
        }
    }

    private static void checkUnheard(StairRegiment x, int f, int size) {
        int w = 1 + random.nextInt(200);
        int s = 1 + random.nextInt(size > 10 ? 2 : 5);
        bestCreaks = Integer.MAX_VALUE;
        bestSteps = Integer.MAX_VALUE;
        goUp(x, f, size, w, s, new int[] {-1, 0, 0});
        boolean can = bestCreaks != Integer.MAX_VALUE;
        check.due("unheard 0", x.unheard(f, w, s, 0), can ? bestCreaks : NONE);
        check.due("unheard 1", x.unheard(f, w, s, 1), can ? bestSteps : NONE);
    }

    private static int heardSet(StairRegiment x, int f, int size, int weight, int stride) {
        int set = 0;
        for (int s = stride - 1; s < size; s += stride) {
            if (x.of(f, s, 4) != 2 && x.creaks(f, s, weight, stride) >= 500) {
                set |= 1 << s;
            }
        }
        return set;
    }

    private static void checkWho(StairRegiment x, int f, int size) {
        int n = 1 + random.nextInt(8);
        int[][] suspects = new int[n][];
        x.suspect(NONE, 0);
        for (int i = 0; i < n; i++) {
            suspects[i] = new int[] {1 + random.nextInt(200), 1 + random.nextInt(5)};
            x.suspect(suspects[i][0], suspects[i][1]);
        }
        int set = heardSet(x, f, size, suspects[0][0], suspects[0][1]);
        int fits = 0;
        for (int i = 0; i < n; i++) {
            fits |= heardSet(x, f, size, suspects[i][0], suspects[i][1]) == set ? 1 << i : 0;
        }
        check.due("fits", x.who(f, set, 0), fits);
        int found = x.who(f, set, 1);
        int due = NONE;
        for (int s = 0; s < size && due == NONE; s++) {
            int loose = x.of(f, s, 2);
            x.set(2, f, s, Math.min(9, loose + 1));
            int yes = 0;
            for (int i = 0; i < n; i++) {
                if ((fits >> i & 1) == 1 && (heardSet(x, f, size, suspects[i][0], suspects[i][1]) >> s & 1) == 1) {
                    yes |= 1 << i;
                }
            }
            x.set(2, f, s, loose);
            if (yes != 0 && yes != fits) {
                due = s;
            }
        }
        check.due("loosen", found, due);
    }

    private static void checkRoster(StairRegiment x, int f, int size) {
        int s = 1 + random.nextInt(5);
        int missing = 0;
        for (int i = 0; i < size; i++) {
            missing |= x.of(f, i, 4) == 2 ? 1 << i : 0;
        }
        int best = NONE;
        for (int set = 0; set < 1 << size; set++) {
            boolean so = (set & missing) == 0;
            for (int from = 0; from + s <= size && so; from++) {
                int window = ((1 << s) - 1) << from;
                so = (window & ~(set | missing)) != 0;
            }
            if (so && (best == NONE || Integer.bitCount(set) > Integer.bitCount(best))) {
                best = set;
            }
        }
        check.due("roster 0", x.roster(f, s, 0), best == NONE ? NONE : Integer.bitCount(best));
        check.due("roster 1", x.roster(f, s, 1), best);
    }

    private static boolean joins(StairRegiment x, Set<Integer> on, Set<Integer> doors, int f, int s) {
        int count = (on.contains(f * 100 + s - 1) && s > 0 ? 1 : 0) + (on.contains(f * 100 + s + 1) ? 1 : 0);
        for (int other : on) {
            count += doors.contains((f * 100 + s) * 1000 + other) ? 1 : 0;
        }
        return x.of(f, s, 4) != 2 && count >= Math.max(1, x.of(f, s, 3));
    }

    private static void spread(StairRegiment x, Set<Integer> on, Set<Integer> doors, int from, int[] sizes) {
        boolean more = true;
        while (more) {
            more = false;
            for (int f = from; f < sizes.length; f++) {
                for (int s = 0; s < sizes[f]; s++) {
                    if (!on.contains(f * 100 + s) && joins(x, on, doors, f, s)) {
                        on.add(f * 100 + s);
                        more = true;
                    }
                }
            }
        }
    }

    private static void checkMutiny(StairRegiment x, int f, int[] sizes, Set<Integer> doors) {
        for (int i = 0; i < 4; i++) {
            int set = random.nextInt(1 << sizes[f]) & random.nextInt(1 << sizes[f]);
            Set<Integer> on = new TreeSet<>();
            boolean can = true;
            for (int s = 0; s < sizes[f]; s++) {
                if ((set >> s & 1) == 1) {
                    on.add(f * 100 + s);
                    can &= x.of(f, s, 4) != 2;
                }
            }
            spread(x, on, doors, 0, sizes);
            check.due("mutiny", x.mutiny(f, set), can ? on.size() : NONE);
        }
    }

    private static int plainFewest(StairRegiment x, int f, int size) {
        int present = 0;
        for (int s = 0; s < size; s++) {
            present |= x.of(f, s, 4) != 2 ? 1 << s : 0;
        }
        int best = size;
        for (int set = 0; set < 1 << size; set++) {
            if ((set & ~present) != 0 || Integer.bitCount(set) >= best) {
                continue;
            }
            Set<Integer> on = new TreeSet<>();
            for (int s = 0; s < size; s++) {
                if ((set >> s & 1) == 1) {
                    on.add(f * 100 + s);
                }
            }
            int[] sizes = new int[f + 1];
            sizes[f] = size;
            spread(x, on, Set.of(), f, sizes);
            if (on.size() == Integer.bitCount(present)) {
                best = Integer.bitCount(set);
            }
        }
        return best;
    }

    private static final java.util.HashMap<Long, Integer> known = new java.util.HashMap<>();

    private static int plainJoined(StairRegiment x, int a, int i, int sizeA, int b, int j, int sizeB) {
        known.clear();
        return joinFrom(x, a, i, sizeA, b, j, sizeB);
    }

    private static int joinFrom(StairRegiment x, int a, int i, int sizeA, int b, int j, int sizeB) {
        if (i == sizeA && j == sizeB) {
            return 0;
        }
        long key = i * 100L + j;
        Integer was = known.get(key);
        if (was != null) {
            return was;
        }
        int best = Integer.MAX_VALUE;
        if (i < sizeA) {
            best = Math.min(best, x.of(a, i, 0) + joinFrom(x, a, i + 1, sizeA, b, j, sizeB));
        }
        if (j < sizeB) {
            best = Math.min(best, x.of(b, j, 0) + joinFrom(x, a, i, sizeA, b, j + 1, sizeB));
        }
        if (i < sizeA && j < sizeB) {
            best = Math.min(best, Math.abs(x.of(a, i, 0) - x.of(b, j, 0)) + joinFrom(x, a, i + 1, sizeA, b, j + 1, sizeB));
        }
        known.put(key, best);
        return best;
    }

    private static int plainLevel(StairRegiment x, int a, int sizeA, int b, int sizeB) {
        Set<Integer> heights = new HashSet<>();
        int high = 0;
        for (int s = 0; s < sizeA; s++) {
            high += x.of(a, s, 0);
            heights.add(high);
        }
        int both = 0;
        high = 0;
        for (int s = 0; s < sizeB; s++) {
            high += x.of(b, s, 0);
            both += heights.contains(high) ? 1 : 0;
        }
        return both;
    }
}
