import java.lang.reflect.Method;
import java.lang.reflect.Modifier;
import java.util.ArrayList;
import java.util.List;
import java.util.Random;

/** No call throws, whatever it is told, and the same calls answer the same (LANGUAGE.md 7 and 13). */
public final class AnyCallTest {
    private static final Check check = new Check("AnyCallTest");
    private static final int[] ODD = {Integer.MIN_VALUE, Integer.MAX_VALUE, -1, 0, 1, 2, 16, 17, 65535, 65536, -2, 1 << 30, 100, 10101};
    private static final String[] PIECES = {"creaks ", "wears ", "rises ", "when ", "or ", "and ", "not ", "weight", "wear ", "loose", "rank ", "carpet ",
        "height ", "number ", "heard ", "failed ", "stride ", "night ", "on ", "flight ", "step ", "watch ", "leave ", "desert ", "bare ", "mend ",
        "loosen ", "up ", "down ", "door ", "0 ", "1 ", "2 ", "10000 ", ";", ";", ";", "+", "-", "*", "/", "(", ")", "<", "=", ">", "\n", "\u00ff", "x"};
    private static final String[] TEXTS = {"creaks 1 when (weight<5 or not rank=1) and height/3*2>1;", "wears 1/3;rises 2;",
        "on 0 flight 0 step 0 leave;", "on 1 flight 0 up weight 5 stride 1;on 1 flight 1 down weight 190 stride 2;", "flight 0 step 0 door 1 step 0;"};

    public static void main(String[] args) throws Exception {
        List<Method> face = new ArrayList<>();
        for (Method m : StairRegiment.class.getDeclaredMethods()) {
            if (Modifier.isPublic(m.getModifiers())) {
                face.add(m);
            }
        }
        face.sort((a, b) -> a.getName().compareTo(b.getName()));
        for (int seed = 0; seed < 250; seed++) {
            List<String> first = run(face, seed);
            List<String> again = run(face, seed);
            check.due("the same calls of " + seed + " answer the same", first.equals(again), true);
        }
        check.finish();
    }

    private static List<String> run(List<Method> face, int seed) throws Exception {
        Random random = new Random(seed);
        StairRegiment x = new StairRegiment();
        List<String> answers = new ArrayList<>();
        for (int i = 0; i < 512; i++) {
            if (random.nextInt(12) == 0) {
                String text = random.nextInt(2) == 0 ? TEXTS[random.nextInt(TEXTS.length)] : pieces(random);
                answers.add("" + Check.tell(x, random.nextInt(4), text) + x.fault(0) + x.fault(1));
                continue;
            }
            Method m = face.get(random.nextInt(face.size()));
            Class<?>[] types = m.getParameterTypes();
            Object[] told = new Object[types.length];
            for (int p = 0; p < types.length; p++) {
                told[p] = types[p] == boolean.class ? (Object) random.nextBoolean() : (Object) number(random);
            }
            answers.add(m.getName() + m.invoke(x, told));
        }
        return answers;
    }

    private static int number(Random random) {
        switch (random.nextInt(8)) {
            case 0: return ODD[random.nextInt(ODD.length)];
            case 1: return random.nextInt();
            case 2: return random.nextInt(200);
            case 3: return random.nextInt(20);
            default: return random.nextInt(5);
        }
    }

    private static String pieces(Random random) {
        StringBuilder text = new StringBuilder();
        for (int i = random.nextInt(60); i > 0; i--) {
            text.append(PIECES[random.nextInt(PIECES.length)]);
        }
        return text.length() > 400 ? text.substring(0, 400) : text.toString();
    }
}
