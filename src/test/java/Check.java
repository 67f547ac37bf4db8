/** Counts answers that are not as due, and feeds texts. */
final class Check {
    private final String name;
    private int wrong;
    private int asked;

    Check(String name) {
        this.name = name;
    }

    void due(String call, long got, long want) {
        asked++;
        if (got != want) {
            wrong++;
            if (wrong <= 50) {
                System.out.println(name + ": " + call + " answered " + got + ", due is " + want);
            }
        }
    }

    void due(String call, boolean got, boolean want) {
        due(call, got ? 1 : 0, want ? 1 : 0);
    }

    /** Tells a text: feeds it by twenties, cuts the rest off, and makes it TEXT k. */
    static int tell(StairRegiment x, int k, String text) {
        feed(x, text);
        return x.text(k);
    }

    static void feed(StairRegiment x, String text) {
        int[] fives = new int[5];
        for (int from = 0; from < text.length(); from += 20) {
            java.util.Arrays.fill(fives, 0x20202020);
            for (int i = from; i < from + 20; i++) {
                int c = i < text.length() ? text.charAt(i) & 255 : 32;
                int shift = 24 - 8 * (i % 4);
                int at = (i - from) / 4;
                fives[at] = fives[at] & ~(255 << shift) | c << shift;
            }
            x.feed(fives[0], fives[1], fives[2], fives[3], fives[4]);
        }
        x.end(text.length());
    }

    /** Tells a text that must have a FAULT of that kind at that place, and must leave the text as it was. */
    void fault(StairRegiment x, int k, String text, int kind, int place) {
        int lines = x.look(6 + k);
        due("text(" + k + ") of <" + text + ">", tell(x, k, text), StairRegiment.NONE);
        due("fault(0) of <" + text + ">", x.fault(0), kind);
        due("fault(1) of <" + text + ">", x.fault(1), place);
        due("lines after <" + text + ">", x.look(6 + k), lines);
        due("tape after <" + text + ">", x.end(1), false);
    }

    void whole(StairRegiment x, int k, String text, int lines) {
        due("text(" + k + ") of <" + text + ">", tell(x, k, text), lines);
        due("fault(0) of <" + text + ">", x.fault(0), 0);
        due("fault(1) of <" + text + ">", x.fault(1), StairRegiment.NONE);
        due("lines of <" + text + ">", x.look(6 + k), lines);
        due("tape after <" + text + ">", x.end(1), false);
    }

    void finish() {
        System.out.println(name + ": " + asked + " answers, " + wrong + " wrong");
        if (wrong != 0 || asked == 0) {
            System.exit(1);
        }
    }
}
