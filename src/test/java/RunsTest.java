import java.lang.reflect.Method;
import java.lang.reflect.Modifier;
import java.nio.ByteBuffer;
import java.util.ArrayList;
import java.util.Arrays;
import java.util.Collections;
import java.util.HashMap;
import java.util.List;
import java.util.Map;
import java.util.Random;

/** Runs of all calls by chance, 512 an object, each answer beside that of PlainRegiment. */
public final class RunsTest {
    private static final int NONE = StairRegiment.NONE;
    private static final int RUNS = 400;
    private static final int[] ODD = {Integer.MIN_VALUE, Integer.MAX_VALUE, -2, -1, 0, 1, 5, 6, 9, 10, 15, 16, 40, 41, 60, 61, 99, 100, 200,
        201, 255, 65535, 1000000, 1000001};

    private static final Check check = new Check("RunsTest");
    private static final Map<String, Method> FACE = new HashMap<>();
    private static final Map<String, Method> YARDSTICK = new HashMap<>();
    // of each call: how often NONE or false was due, how often something else
    private static final Map<String, int[]> ASKED = new HashMap<>();

    private interface Turn {
        void take() throws ReflectiveOperationException;
    }

    private final Random random;
    private final StairRegiment real = new StairRegiment();
    private final PlainRegiment plain = new PlainRegiment();
    private final ChanceText texts;
    private final StringBuilder told;
    private final List<Turn> turns = new ArrayList<>();
    private int calls;
    private boolean isWrong;

    public static void main(String[] args) throws ReflectiveOperationException {
        for (Method m : StairRegiment.class.getDeclaredMethods()) {
            if (Modifier.isPublic(m.getModifiers())) {
                FACE.put(m.getName(), m);
                YARDSTICK.put(m.getName(), PlainRegiment.class.getMethod(m.getName(), m.getParameterTypes()));
                ASKED.put(m.getName(), new int[2]);
            }
        }
        for (int seed = 0; seed < RUNS; seed++) {
            new RunsTest(seed).run();
        }
        ASKED.forEach((name, times) -> {
            check.due(name + " that answers", times[1] > 100, true);
            boolean isRefused = times[0] > 20 || name.equals("state");
            check.due(name + " that is refused", isRefused, true);
        });
        check.finish();
    }

    private RunsTest(int seed) {
        random = new Random(seed);
        texts = new ChanceText(random, plain);
        told = new StringBuilder("run ").append(seed);
        addStairs();
        addDeeds();
        addAsks();
        addFlightThoughts();
        addToldForThought();
        addRiddles();
    }

    private void run() throws ReflectiveOperationException {
        boolean isBusy = random.nextBoolean();
        int textsOf25 = any(4);
        for (int flights = any(4); flights > 0; flights--) {
            flight();
        }
        // some runs begin late, some near to the last NIGHT
        for (int late = one(3) ? any(170) : 0; late > 0; late--) {
            call("nights", 60);
        }
        while (calls < 512 && !isWrong) {
            if (any(25) < textsOf25) {
                tellText();
            } else if (isBusy && one(2)) {
                deed();
            } else {
                turns.get(any(turns.size())).take();
            }
        }
    }

    private long call(String name, Object... args) throws ReflectiveOperationException {
        if (calls >= 512 || isWrong) {
            return NONE;
        }
        calls++;
        String asked = name + Arrays.toString(args);
        told.append('\n').append(asked);
        long got = number(FACE.get(name).invoke(real, args));
        Object due = YARDSTICK.get(name).invoke(plain, args);
        isWrong = got != number(due);
        check.due(isWrong ? told.toString() : asked, got, number(due));
        ASKED.get(name)[due.equals(false) || due.equals(NONE) || due.equals(-1000) ? 0 : 1]++;
        return got;
    }

    private static long number(Object answer) {
        return answer instanceof Boolean b ? (b ? 1 : 0) : (Integer) answer;
    }

    // ---- numbers by chance

    private int any(int n) {
        return random.nextInt(n);
    }

    /** One time of so many. */
    private boolean one(int times) {
        return any(times) == 0;
    }

    /** Most often within these bounds, now and then just beyond them, or an odd one. */
    private int from(int low, int high) {
        if (one(40)) {
            return ODD[any(ODD.length)];
        }
        return one(30) ? (one(2) ? low - 1 : high + 1) : low + any(high - low + 1);
    }

    private int noneOr(int times, int v) {
        return one(times) ? NONE : v;
    }

    private int anyFlight() {
        return from(0, Math.max(0, plain.look(0) - 1));
    }

    private int anyStep(int flight) {
        return from(0, Math.max(1, plain.stepsOf(flight)) - 1);
    }

    private int anySet(int flight) {
        int all = 1 << plain.stepsOf(flight);
        return one(20) ? from(0, all - 1) : any(all) & (one(2) ? any(all) : all - 1);
    }

    private int weight() {
        return from(1, 200);
    }

    private int stride() {
        return from(1, 5);
    }

    private int shuffled(int digits) {
        List<Integer> row = new ArrayList<>();
        for (int i = 0; i < digits; i++) {
            row.add(i);
        }
        Collections.shuffle(row, random);
        int v = 0;
        for (int digit : row) {
            v = 10 * v + digit;
        }
        return v;
    }

    // ---- what is called

    private void flight() throws ReflectiveOperationException {
        call("flight", from(1, one(3) ? 16 : 6), from(5, 40));
    }

    private void set() throws ReflectiveOperationException {
        int f = anyFlight();
        int what = from(0, 3);
        call("set", what, f, anyStep(f), what == 0 ? from(5, 40) : what == 1 ? from(0, 99) : from(0, 9));
    }

    private void order() throws ReflectiveOperationException {
        int f = anyFlight();
        call("order", from(0, 6), f, anyStep(f));
    }

    private void deed() throws ReflectiveOperationException {
        switch (any(5)) {
            case 0 -> order();
            case 1 -> call("nights", from(1, one(3) ? 60 : 3));
            case 2 -> call("undo");
            default -> call("visit", anyFlight(), random.nextBoolean(), weight(), stride());
        }
    }

    private void of() throws ReflectiveOperationException {
        int f = anyFlight();
        for (int i = 0; i < 4; i++) {
            call("of", f, anyStep(f), from(0, 9));
        }
    }

    private void addStairs() {
        turns.add(this::flight);
        turns.add(this::set);
        turns.add(() -> {
            if (one(4)) {
                call("state", random.nextInt());
            }
        });
        turns.add(() -> {
            for (int twenties = one(10) ? 21 : 1; twenties > 0; twenties--) {
                call("feed", random.nextInt(), random.nextInt(), 0x20202020, 0x20202020, random.nextInt());
            }
        });
        turns.add(() -> call("end", from(0, any(40))));
        turns.add(() -> {
            if (one(3)) {
                call("text", from(0, 3));
            }
        });
    }

    private void addDeeds() {
        turns.add(this::order);
        turns.add(() -> call("visit", anyFlight(), random.nextBoolean(), weight(), stride()));
        turns.add(() -> call("nights", from(1, 60) / (1 + any(20))));
        turns.add(() -> call("undo"));
        turns.add(() -> call("image", one(3)));
    }

    private void addAsks() {
        turns.add(() -> call("fault", from(0, 1)));
        turns.add(this::of);
        turns.add(() -> {
            int f = anyFlight();
            call(one(2) ? "creaks" : "wears", f, anyStep(f), weight(), stride());
        });
        turns.add(() -> call("book", from(0, Math.max(0, plain.look(4) - 1)), from(0, 3)));
        turns.add(() -> call("look", from(0, 10)));
    }

    private void who() throws ReflectiveOperationException {
        int f = anyFlight();
        int set = one(4) ? anySet(f) : plain.heardOfAny(f, any(8));
        call("who", f, set, 0);
        call("who", f, set, from(0, 1));
    }

    private void unheard() throws ReflectiveOperationException {
        int f = anyFlight();
        int weight = weight();
        int stride = stride();
        call("unheard", f, weight, stride, 0);
        call("unheard", f, weight, stride, from(0, 1));
    }

    private void addFlightThoughts() {
        turns.add(() -> call("goes", from(1, 60), from(0, 3)));
        turns.add(this::unheard);
        turns.add(this::who);
        turns.add(() -> call("roster", anyFlight(), stride(), from(0, 1)));
        turns.add(() -> call("joined", anyFlight(), anyFlight(), from(0, 1)));
        turns.add(() -> {
            int f = anyFlight();
            call("mutiny", f, noneOr(4, anySet(f)));
        });
    }

    private void addToldForThought() {
        turns.add(() -> call("suspect", noneOr(30, weight()), stride()));
        turns.add(() -> call("signer", noneOr(12, one(6) ? from(0, 3210) : shuffled(4))));
        turns.add(() -> call("drill", one(6) ? random.nextInt() : shuffled(8)));
        turns.add(() -> call("calls", noneOr(15, from(0, one(2) ? 15 : 3))));
        turns.add(() -> call("length", noneOr(10, from(1, one(2) ? 60 : 20))));
        turns.add(() -> call("wall", noneOr(10, from(0, one(4) ? 99 : 9))));
        // the yardstick writes all rows down: of ten digits there would be too many
        turns.add(() -> call("digit", plain.told.digits.size() >= 6 ? NONE : noneOr(10, from(0, 9))));
        turns.add(() -> call("coins", from(1, 8), one(3) ? 0 : from(0, one(2) ? 3 : 20)));
    }

    private void addRiddles() {
        turns.add(() -> call("signs", from(0, 2)));
        turns.add(() -> call("drilled", from(0, one(8) ? 1000000 : 40), from(0, 7)));
        turns.add(() -> call("between", from(0, 99) * 100 + from(1, 99), one(4) ? from(0, 9999) : from(0, 3) * 100 + from(1, 9)));
        turns.add(() -> call("spiral", from(0, one(2) ? 100 : 100000), from(0, 1)));
        turns.add(() -> call("winds", from(-100, 100), one(2) ? from(-5, 5) : from(-100, 100)));
        turns.add(() -> call("missing", from(0, 1)));
        turns.add(() -> {
            int roll = one(2) ? from(1, 120) : from(20, 60);
            call("runner", roll, 0);
            call("runner", roll, from(0, 1));
        });
        turns.add(() -> call("ramp", from(1, 9), from(0, one(2) ? 99 : 20)));
        turns.add(() -> call("box", from(1, 9) * 10000 + from(1, 9) * 100 + from(1, 9), from(1, 9) * 100 + from(1, 9), from(0, 1)));
        turns.add(() -> call("cellar", from(0, one(2) ? 11 : 5)));
        turns.add(() -> call("game", from(0, 1)));
    }

    private void tellText() throws ReflectiveOperationException {
        int k = any(4);
        String text = texts.of(k);
        if (!one(10)) {
            call("end", 0);
        }
        int before = plain.tape.length();
        byte[] bytes = new byte[(text.length() + 19) / 20 * 20];
        for (int i = 0; i < text.length(); i++) {
            bytes[i] = (byte) text.charAt(i);
        }
        ByteBuffer ints = ByteBuffer.wrap(bytes);
        while (ints.hasRemaining()) {
            call("feed", ints.getInt(), ints.getInt(), ints.getInt(), ints.getInt(), ints.getInt());
        }
        if (!one(20)) {
            call("end", before + text.length());
        }
        told.append("  <").append(text).append(">");
        if (call("text", one(15) ? from(0, 3) : k) == NONE || one(4)) {
            call("fault", 0);
            call("fault", 1);
        }
    }
}
