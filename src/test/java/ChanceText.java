import java.util.Random;

/** Texts by chance for RunsTest: most of them whole, some with a FAULT. */
final class ChanceText {
    private static final String[] FACTS =
        {"weight", "wear", "loose", "rank", "carpet", "height", "number", "heard", "failed", "stride", "night"};
    private static final String[] STRAY =
        {";", "(", ")", " ", "9", "not ", "or ", "<", "A", "\t", "on ", "up", "door ", "watch", "when ", "\u00e9"};

    private final Random random;
    private final PlainRegiment plain;

    ChanceText(Random random, PlainRegiment plain) {
        this.random = random;
        this.plain = plain;
    }

    /** A text for TEXT k of 400 bytes at most. */
    String of(int k) {
        boolean isLong = one(8);
        StringBuilder text = new StringBuilder();
        for (int lines = isLong ? 14 + any(5) : any(5); lines > 0; lines--) {
            String line = isLong ? shortLine(k) : k == 0 ? lawLine() : line(k);
            if (text.length() + line.length() < 395) {
                text.append(line).append(gap());
            }
        }
        if (one(6) && text.length() > 0) {
            spoil(text);
        }
        return text.substring(0, Math.min(text.length(), 400));
    }

    private void spoil(StringBuilder text) {
        int at = any(text.length());
        switch (any(3)) {
            case 0 -> text.deleteCharAt(at);
            case 1 -> text.setCharAt(at, (char) any(256));
            default -> text.insert(at, pick(STRAY));
        }
    }

    private int any(int n) {
        return random.nextInt(n);
    }

    /** One time of so many. */
    private boolean one(int times) {
        return any(times) == 0;
    }

    private String pick(String... all) {
        return all[any(all.length)];
    }

    private String blank() {
        return one(12) ? pick("\n", "  ", " \n ") : " ";
    }

    private String gap() {
        return one(3) ? blank() : "";
    }

    // ---- the law

    private String number() {
        return one(60) ? pick("0", "0000", "00000", "10000", "9999") : one(3) ? "" + any(1000) : "" + any(12);
    }

    private String unit() {
        return one(2) ? number() : pick(FACTS);
    }

    private String part() {
        return one(40) ? "0" : "" + (1 + any(20));
    }

    private String sum() {
        StringBuilder sum = new StringBuilder(unit());
        while (any(5) < 2) {
            String sign = pick("+", "-", "*", "/");
            sum.append(gap()).append(sign).append(gap()).append(sign.equals("/") ? part() : unit());
        }
        return sum.toString();
    }

    private String comparison() {
        return sum() + gap() + pick("<", "=", ">") + gap() + sum();
    }

    private String condition(int deep) {
        if (deep < 12 && one(4)) {
            return "not " + (one(2) ? "(" + conditions(deep + 1) + ")" : condition(deep + 1));
        }
        return deep < 12 && one(4) ? "(" + gap() + conditions(deep + 1) + gap() + ")" : comparison();
    }

    private String conditions(int deep) {
        StringBuilder all = new StringBuilder(condition(deep));
        while (any(5) < 2) {
            all.append(blank()).append(pick("or", "and")).append(blank()).append(condition(deep));
        }
        return one(40) ? deepened(all.toString()) : all.toString();
    }

    /** About as many ( and not around it as may be open. */
    private String deepened(String condition) {
        int times = 7 + any(4);
        String opening = pick("(", "not ", "not(");
        return opening.repeat(times) + condition + (opening.endsWith("(") ? ")".repeat(times) : "");
    }

    /** An E for creaks that lies near to where it is decided. */
    private String likely() {
        return pick("500", "1000", "weight*3+stride*100", "number*200", "300+loose*60+wear*9", "499+heard");
    }

    private String lawLine() {
        String word = one(2) ? "creaks" : pick("wears", "rises");
        String sum = word.equals("creaks") && one(2) ? likely() : sum();
        return word + blank() + sum + (one(2) ? blank() + "when " + conditions(0) : "") + gap() + ";";
    }

    // ---- orders, visits, doors

    /** So short that seventeen of them find room, but for VISITS. */
    private String shortLine(int k) {
        return switch (k) {
            case 0 -> pick("creaks 1;", "wears 2;", "rises 3;", "creaks 7*8;");
            case 1 -> "on 0flight 0step 0bare;";
            case 2 -> line(k);
            default -> "flight 0step 0door 1step 0;";
        };
    }

    private int near(int low, int high) {
        return Math.max(0, one(25) ? (one(2) ? low - 1 : high + 1) : low + any(Math.max(1, high - low + 1)));
    }

    private int night() {
        return one(15) ? near(0, 999) : Math.min(999, plain.look(3) + any(5));
    }

    private int flight() {
        return near(0, plain.look(0) - 1);
    }

    private int step(int flight) {
        return near(0, plain.stepsOf(flight) - 1);
    }

    private String order(int f) {
        return " step " + step(f) + " " + pick("watch", "leave", "desert", "carpet", "bare", "mend", "loosen");
    }

    private String visit() {
        return " " + pick("up", "down") + " weight " + near(1, 200) + " stride " + near(1, 5);
    }

    private String line(int k) {
        int f = flight();
        if (k < 3) {
            return "on " + night() + " flight " + f + (k == 1 ? order(f) : visit()) + gap() + ";";
        }
        int other = one(15) ? flight() : (f + 1 + any(Math.max(1, plain.look(0) - 1))) % Math.max(1, plain.look(0));
        return "flight " + f + " step " + step(f) + " door " + other + " step " + step(other) + gap() + ";";
    }
}
