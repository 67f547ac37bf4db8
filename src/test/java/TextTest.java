import java.util.Random;

/** Promises 8 to 11, and what THE LAW tells (12 to 14). */
public final class TextTest {
    private static final Check check = new Check("TextTest");
    private static final int NONE = StairRegiment.NONE;

    public static void main(String[] args) {
        tape();
        noSuchText();
        tokens();
        lawFaults();
        lineFaults();
        seventeen();
        open();
        words();
        precedence();
        randomLaws();
        check.finish();
    }

    private static StairRegiment house() {
        StairRegiment x = new StairRegiment();
        x.flight(3, 10);
        x.flight(1, 20);
        return x;
    }

    private static void tape() {
        StairRegiment x = house();
        check.due("end(1) of an empty tape", x.end(1), false);
        check.due("end(-1)", x.end(-1), false);
        check.due("end(0)", x.end(0), true);
        for (int i = 1; i <= 20; i++) {
            check.due("feed " + i, x.feed(0, -1, 0x20202020, Integer.MIN_VALUE, 7), 20 * i);
        }
        check.due("feed beyond 400", x.feed(0, 0, 0, 0, 0), NONE);
        check.due("end(401)", x.end(401), false);
        check.due("end(400)", x.end(400), true);
        check.due("end(381)", x.end(381), true);
        check.due("feed beyond 400", x.feed(0, 0, 0, 0, 0), NONE);
        check.due("end(382)", x.end(382), false);
        check.due("end(380)", x.end(380), true);
        check.due("feed to 400", x.feed(0, 0, 0, 0, 0), 400);
        check.due("text of zeros", x.text(0), NONE);
        check.due("fault(0)", x.fault(0), 1);
        check.due("fault(1)", x.fault(1), 0);
        check.due("tape is empty then", x.end(1), false);
        check.due("fault(2)", x.fault(2), NONE);
        check.due("fault(-1)", x.fault(-1), NONE);
        check.fault(x, 0, "creaks", 1, 6);
        check.whole(x, 0, "creaks 7;", 1);
        check.due("creaks", x.creaks(0, 0, 1, 1), 7);
        check.due("an empty law", x.text(0), 0);
        check.due("creaks", x.creaks(0, 0, 1, 1), 1);
    }

    /** The TAPE is empty behind text(k), where there is no such TEXT k, too; nothing else is changed by it. */
    private static void noSuchText() {
        for (int k : new int[] {-1, 4, 5, Integer.MIN_VALUE, Integer.MAX_VALUE}) {
            StairRegiment x = house();
            check.whole(x, 0, "creaks 7;", 1);
            check.whole(x, 1, "on 0 flight 0 step 2 watch;", 1);
            check.whole(x, 2, "on 0 flight 0 up weight 1 stride 1;", 1);
            check.whole(x, 3, "flight 0 step 2 door 1 step 0;", 1);
            check.due("an order", x.order(6, 0, 0), true);
            check.fault(x, 0, "creaks", 1, 6);
            for (String text : new String[] {"", "creaks 8;", "creaks 8", "x".repeat(400)}) {
                Check.feed(x, text);
                check.due("text(" + k + ") of <" + text + ">", x.text(k), NONE);
                check.due("fault(0) of text(" + k + ")", x.fault(0), 0);
                check.due("fault(1) of text(" + k + ")", x.fault(1), NONE);
                check.due("end(1) behind text(" + k + ")", x.end(1), false);
                check.due("end(0) behind text(" + k + ")", x.end(0), true);
                check.due("feed behind text(" + k + ")", x.feed(0, 0, 0, 0, 0), 20);
                check.due("text(" + k + ") again", x.text(k), NONE);
                for (int kept = 0; kept <= 3; kept++) {
                    check.due("lines behind text(" + k + ") of TEXT " + kept, x.look(6 + kept), 1);
                }
                check.due("creaks behind text(" + k + ")", x.creaks(0, 0, 1, 1), 7);
                check.due("what can be undone behind text(" + k + ")", x.look(10), 1);
            }
            Check.feed(x, "creaks 8;");
            x.text(k);
            check.due("the law of what is left on the tape: none", x.text(0), 0);
        }
    }

    private static void tokens() {
        StairRegiment x = house();
        check.whole(x, 0, "", 0);
        check.whole(x, 0, " \n \n", 0);
        check.whole(x, 0, "creaks1;wears\n2\n;\nrises 3 ; ", 3);
        check.due("creaks", x.creaks(0, 0, 1, 1), 1);
        check.due("wears", x.wears(0, 0, 1, 1), 2);
        check.due("rises", x.of(0, 0, 8), 3);
        check.whole(x, 0, "creaks 0012+5when 1=1;", 1);
        check.due("creaks", x.creaks(0, 0, 1, 1), 17);
        check.fault(x, 0, "creaks 00001;", 1, 7);
        check.fault(x, 0, "creaks\t1;", 1, 6);
        check.fault(x, 0, "creaks 1\r;", 1, 8);
        check.fault(x, 0, "creakss 1;", 1, 0);
        check.fault(x, 0, " creak 1;", 1, 1);
        check.fault(x, 0, "Creaks 1;", 1, 0);
        check.fault(x, 0, "creaksX 1;", 1, 0);
        check.fault(x, 0, "creaks 1,", 1, 8);
        check.fault(x, 0, "creaks 1:", 1, 8);
        check.fault(x, 0, "creaks 1.5;", 1, 8);
        check.fault(x, 0, "creaks 1;\u00e9", 1, 9);
        check.fault(x, 0, "creaks 1;\u0000", 1, 9);
        check.fault(x, 0, "creaks 1 wearsrises", 1, 9);
        check.fault(x, 0, "creaks nightweight;", 1, 7);
        check.fault(x, 0, "on 1 flight 0 step 0 watch;", 1, 0);
        check.whole(x, 1, "on1flight0step0watch;on 2 flight 1\nstep 0 carpet\n;", 2);
    }

    private static void lawFaults() {
        StairRegiment x = house();
        check.whole(x, 0, "wears 4;", 1);
        check.fault(x, 0, ";", 1, 0);
        check.fault(x, 0, "1", 1, 0);
        check.fault(x, 0, "creaks", 1, 6);
        check.fault(x, 0, "creaks  ", 1, 8);
        check.fault(x, 0, "creaks 1", 1, 8);
        check.fault(x, 0, "creaks 1 \n", 1, 10);
        check.fault(x, 0, "creaks 1 +;", 1, 10);
        check.fault(x, 0, "creaks 1 2;", 1, 9);
        check.fault(x, 0, "creaks -1;", 1, 7);
        check.fault(x, 0, "creaks (1);", 1, 7);
        check.fault(x, 0, "creaks 1**2;", 1, 9);
        check.fault(x, 0, "creaks 1/weight;", 1, 9);
        check.fault(x, 0, "creaks 1/2/00;", 2, 11);
        check.fault(x, 0, "creaks 1/0000 1", 2, 9);
        check.fault(x, 0, "creaks 1/00000;", 1, 9);
        check.fault(x, 0, "creaks 1 when;", 1, 13);
        check.fault(x, 0, "creaks 1 when 1;", 1, 15);
        check.fault(x, 0, "creaks 1 when 1=;", 1, 16);
        check.fault(x, 0, "creaks 1 when 1==1;", 1, 16);
        check.fault(x, 0, "creaks 1 when 1=1=1;", 1, 17);
        check.fault(x, 0, "creaks 1 when (1=1;", 1, 18);
        check.fault(x, 0, "creaks 1 when (1=1", 1, 18);
        check.fault(x, 0, "creaks 1 when (1)=1;", 1, 16);
        check.fault(x, 0, "creaks 1 when 1=1);", 1, 17);
        check.fault(x, 0, "creaks 1 when 1=1 or;", 1, 20);
        check.fault(x, 0, "creaks 1 when 1=1 and or 1=1;", 1, 22);
        check.fault(x, 0, "creaks 1 when 1=1 not 1=1;", 1, 18);
        check.fault(x, 0, "creaks 1 when not;", 1, 17);
        check.fault(x, 0, "creaks 1 when 1=1 when 1=1;", 1, 18);
        check.fault(x, 0, "creaks 1 when 4/0=1 and (;", 2, 16);
        check.fault(x, 0, "creaks 1; wears when", 1, 16);
        check.fault(x, 0, "when 1=1;", 1, 0);
        check.fault(x, 0, "creaks watch;", 1, 7);
        check.due("the law stays", x.wears(0, 0, 1, 1), 4);
    }

    private static void lineFaults() {
        StairRegiment x = house();
        check.whole(x, 1, "on 0 flight 0 step 2 watch; on 999 flight 1 step 0 loosen;", 2);
        check.fault(x, 1, "on", 1, 2);
        check.fault(x, 1, "on watch", 1, 3);
        check.fault(x, 1, "on 1000 flight 9", 2, 3);
        check.fault(x, 1, "on 10000 flight 9", 1, 3);
        check.fault(x, 1, "on 1 step 1", 1, 5);
        check.fault(x, 1, "on 1 flight 2 step 0 watch;", 2, 12);
        check.fault(x, 1, "on 1 flight 1 step 1 watch;", 2, 19);
        check.fault(x, 1, "on 1 flight 0 step 3 watch;", 2, 19);
        check.fault(x, 1, "on 1 flight 0 step 2;", 1, 20);
        check.fault(x, 1, "on 1 flight 0 step 2 up;", 1, 21);
        check.fault(x, 1, "on 1 flight 0 step 2 watch", 1, 26);
        check.fault(x, 1, "on 1 flight 0 step 2 watch watch", 1, 27);
        check.fault(x, 1, "on 1 flight 0 step 2 watch;;", 1, 27);
        check.fault(x, 1, "on 1+1 flight 0", 1, 4);
        check.whole(x, 2, "on 999 flight 0 up weight 200 stride 5;on 0 flight 1 down weight 1 stride 1;", 2);
        check.fault(x, 2, "on 1000 flight 0 up", 2, 3);
        check.fault(x, 2, "on 0 flight 0 step 1", 1, 14);
        check.fault(x, 2, "on 0 flight 2 up", 2, 12);
        check.fault(x, 2, "on 0 flight 0 up stride 1", 1, 17);
        check.fault(x, 2, "on 0 flight 0 up weight 0", 2, 24);
        check.fault(x, 2, "on 0 flight 0 up weight 201", 2, 24);
        check.fault(x, 2, "on 0 flight 0 up weight 1 stride 0;", 2, 33);
        check.fault(x, 2, "on 0 flight 0 up weight 1 stride 6;", 2, 33);
        check.fault(x, 2, "on 0 flight 0 up weight 1 stride 5", 1, 34);
        check.fault(x, 2, "on 0 flight 0 up weight 1;", 1, 25);
        check.whole(x, 3, "flight 0 step 2 door 1 step 0;", 1);
        check.fault(x, 3, "on", 1, 0);
        check.fault(x, 3, "flight 2 step 0", 2, 7);
        check.fault(x, 3, "flight 0 step 3 door", 2, 14);
        check.fault(x, 3, "flight 0 step 2 door 0 step 0;", 2, 21);
        check.fault(x, 3, "flight 0 step 2 door 00 step 0;", 2, 21);
        check.fault(x, 3, "flight 0 step 2 door 2 step 0;", 2, 21);
        check.fault(x, 3, "flight 0 step 2 door 1 step 1;", 2, 28);
        check.fault(x, 3, "flight 0 step 2 door step 1;", 1, 21);
        check.fault(x, 3, "flight 0 step 2 flight 1 step 0;", 1, 16);
        check.fault(x, 3, "flight 0 step 2 door 1 step 0", 1, 29);
        StairRegiment bare = new StairRegiment();
        check.fault(bare, 1, "on 1 flight 0 step 0 watch;", 2, 12);
        check.fault(bare, 2, "on 1 flight 0 up weight 1 stride 1;", 2, 12);
        check.fault(bare, 3, "flight 0 step 0 door 1 step 0;", 2, 7);
    }

    private static void seventeen() {
        String[] lines = {"creaks 1;", "on 0flight 0step 0mend;", null, "flight 0step 0door 1step 0;"};
        for (int k = 0; k <= 3; k++) {
            if (k == 2) {
                continue;
            }
            String sixteen = lines[k].repeat(16);
            if (sixteen.length() > 380) {
                sixteen = "flight0step0door1step0;".repeat(16);
            }
            StairRegiment x = house();
            check.whole(x, k, sixteen, 16);
            String word = k == 0 ? "rises" : k == 3 ? "flight" : "on";
            check.fault(x, k, sixteen + word, 3, sixteen.length());
            check.fault(x, k, sixteen + " " + word + " ;", 3, sixteen.length() + 1);
            check.fault(x, k, sixteen + ";", 1, sixteen.length());
            check.fault(x, k, sixteen + "watch", 1, sixteen.length());
            check.whole(x, k, sixteen + " \n", 16);
        }
        // sixteen visits do not go on the tape: twelve of the shortest do
        StairRegiment x = house();
        check.whole(x, 2, "on0flight0up weight1stride1;".repeat(14), 14);
    }

    private static void open() {
        StairRegiment x = house();
        String head = "creaks 1 when ";
        int at = head.length();
        check.whole(x, 0, head + "(".repeat(8) + "1=1" + ")".repeat(8) + ";", 1);
        check.fault(x, 0, head + "(".repeat(9) + "1=1" + ")".repeat(9) + ";", 3, at + 8);
        check.whole(x, 0, head + "not ".repeat(8) + "1=1;", 1);
        check.fault(x, 0, head + "not ".repeat(9) + "1=1;", 3, at + 32);
        check.whole(x, 0, head + "not (".repeat(4) + "1=1" + ")".repeat(4) + ";", 1);
        check.fault(x, 0, head + "not (".repeat(4) + "not 1=1" + ")".repeat(4) + ";", 3, at + 20);
        check.fault(x, 0, head + "not (".repeat(4) + "(1=1)" + ")".repeat(4) + ";", 3, at + 20);
        // what is closed is not open any more
        check.whole(x, 0, head + "(".repeat(8) + "1=1" + ")".repeat(8) + " and " + "not ".repeat(8) + "1=1 or not (" + "(".repeat(6) + "1=1" + ")".repeat(7) + ";", 1);
        check.whole(x, 0, head + "((not 1=1) and not not ((((1=1 or not 1=1)))));", 1);
        check.fault(x, 0, head + "(".repeat(7) + "not 1=1 and not not 1=1", 3, at + 7 + 16);
    }

    private static int creaks(StairRegiment x, String law) {
        check.whole(x, 0, law, law.length() - law.replace(";", "").length());
        return x.creaks(0, 2, 77, 3);
    }

    private static void words() {
        StairRegiment x = house();
        x.set(0, 0, 2, 31);
        x.set(1, 0, 2, 42);
        x.set(2, 0, 2, 6);
        x.set(3, 0, 2, 5);
        x.order(3, 0, 2);
        check.whole(x, 0, "creaks 1000 when stride=5; creaks 0; wears 0;", 3);
        for (int i = 0; i < 4; i++) {
            x.visit(0, true, 9, 3);
        }
        x.order(2, 0, 0);
        x.order(2, 0, 1);
        check.whole(x, 0, "creaks 1000; wears 0;", 2);
        x.visit(0, true, 9, 3);
        x.visit(0, true, 9, 3);
        x.nights(13);
        check.due("weight", creaks(x, "creaks weight;"), 77);
        check.due("wear", creaks(x, "creaks wear;"), 42);
        check.due("loose", creaks(x, "creaks loose;"), 6);
        check.due("rank", creaks(x, "creaks rank;"), 5);
        check.due("carpet", creaks(x, "creaks carpet;"), 1);
        check.due("height", creaks(x, "creaks height;"), 31);
        check.due("number", creaks(x, "creaks number;"), 2);
        check.due("heard", creaks(x, "creaks heard;"), 2);
        check.due("failed", creaks(x, "creaks failed;"), 4);
        check.due("stride", creaks(x, "creaks stride;"), 3);
        check.due("night", creaks(x, "creaks night;"), 13);
        check.whole(x, 0, "rises weight+stride;wears weight;", 2);
        check.due("rises without a visit", x.of(0, 2, 8), 0);
        check.due("wears", x.wears(0, 2, 77, 3), 77);
        check.whole(x, 0, "rises 10;wears 100;creaks 1001;", 3);
        check.due("rises held", x.of(0, 2, 8), 9);
        check.due("wears held", x.wears(0, 2, 77, 3), 99);
        check.due("creaks held", x.creaks(0, 2, 77, 3), 1000);
        check.whole(x, 0, "rises 0-1;wears 0-1;creaks 0-1;", 3);
        check.due("rises held", x.of(0, 2, 8), 0);
        check.due("wears held", x.wears(0, 2, 77, 3), 0);
        check.due("creaks held", x.creaks(0, 2, 77, 3), 0);
        // law after law on one object: none is hindered by what earlier ones took
        for (int i = 0; i < 30; i++) {
            check.due("law " + i, creaks(x, "creaks " + "1+".repeat(150) + i + ";"), 150 + i);
        }
        check.due("as long as a tape", creaks(x, "creaks " + "1+".repeat(195) + "1 ;"), 196);
        check.fault(x, 0, ";".repeat(400), 1, 0);
        check.fault(x, 0, "creaks " + "1+".repeat(196) + "1", 1, 400);
        check.due("first that is so", creaks(x, "wears 1;creaks 2 when number=1;creaks 3 when number=2;creaks 4;"), 3);
        check.due("none is so", creaks(x, "creaks 2 when number=1;"), 77 + 210 + 300 - 300);
        check.due("none behind one without", creaks(x, "creaks 8;creaks 9;"), 8);
    }

    private static void precedence() {
        StairRegiment x = house();
        check.due("7/2*2", creaks(x, "creaks 7/2*2;"), 6);
        check.due("2*7/3", creaks(x, "creaks 2*7/3;"), 4);
        check.due("100-10-5", creaks(x, "creaks 100-10-5;"), 85);
        check.due("100-10*5/3+1", creaks(x, "creaks 100-10*5/3+1;"), 85);
        check.due("towards 0", creaks(x, "creaks 1000+9999*9999*9999/9999/999;"), 1000 - 102);
        check.due("a part of a product below 0", creaks(x, "creaks 5 when 9999*9999*9999/9999=9999*9999;creaks 6;"), 6);
        check.due("wraps", creaks(x, "creaks 5 when 9999*9999*9999<0;creaks 6;"), 9999 * 9999 * 9999 < 0 ? 5 : 6);
        check.due("and before or", creaks(x, "creaks 5 when 1=1 or 1=1 and 1=2;creaks 6;"), 5);
        check.due("and before or", creaks(x, "creaks 5 when 1=2 and 1=1 or 1=1;creaks 6;"), 5);
        check.due("brackets", creaks(x, "creaks 5 when (1=1 or 1=1) and 1=2;creaks 6;"), 6);
        check.due("not binds closest", creaks(x, "creaks 5 when not 1=1 or 1=1;creaks 6;"), 5);
        check.due("not of a bracket", creaks(x, "creaks 5 when not (1=1 or 1=1);creaks 6;"), 6);
        check.due("less", creaks(x, "creaks 5 when 1<1;creaks 6;"), 6);
        check.due("more", creaks(x, "creaks 5 when 2>1+1;creaks 6;"), 6);
    }

    // ---- laws by chance against a plain reckoning

    private static final Random random = new Random(20261118);
    private static final String[] NAMES = {"weight", "wear", "loose", "rank", "carpet", "height", "number", "heard", "failed", "stride", "night"};
    private static int[] facts;
    private static int value;
    private static boolean truth;

    private static String unit() {
        if (random.nextInt(3) == 0) {
            value = random.nextInt(4) == 0 ? random.nextInt(10000) : random.nextInt(30);
            return "" + value;
        }
        int which = random.nextInt(NAMES.length);
        value = facts[which];
        return NAMES[which];
    }

    private static String product() {
        StringBuilder text = new StringBuilder(unit());
        int all = value;
        while (random.nextInt(3) == 0) {
            if (random.nextBoolean()) {
                text.append('*').append(unit());
                all *= value;
            } else {
                int by = 1 + random.nextInt(20);
                text.append('/').append(by);
                all /= by;
            }
        }
        value = all;
        return text.toString();
    }

    private static String sum() {
        StringBuilder text = new StringBuilder(product());
        int all = value;
        while (random.nextInt(3) == 0) {
            boolean plus = random.nextBoolean();
            text.append(plus ? '+' : '-').append(product());
            all = plus ? all + value : all - value;
        }
        value = all;
        return text.toString();
    }

    private static String comparison(int depth) {
        int kind = depth > 2 ? 5 : random.nextInt(6);
        if (kind == 0) {
            String text = "not " + comparison(depth + 1);
            truth = !truth;
            return text;
        }
        if (kind == 1) {
            return "(" + condition(depth + 1) + ")";
        }
        String a = sum();
        int left = value;
        String b = sum();
        int sign = random.nextInt(3);
        truth = sign == 0 ? left < value : sign == 1 ? left == value : left > value;
        return a + "<=>".charAt(sign) + b;
    }

    private static String all(int depth) {
        StringBuilder text = new StringBuilder(comparison(depth));
        boolean so = truth;
        while (random.nextInt(4) == 0) {
            text.append(" and ").append(comparison(depth));
            so &= truth;
        }
        truth = so;
        return text.toString();
    }

    private static String condition(int depth) {
        StringBuilder text = new StringBuilder(all(depth));
        boolean so = truth;
        while (random.nextInt(4) == 0) {
            text.append(" or ").append(all(depth));
            so |= truth;
        }
        truth = so;
        return text.toString();
    }

    private static void randomLaws() {
        for (int round = 0; round < 3000; round++) {
            int[] traits = {5 + random.nextInt(36), random.nextInt(100), random.nextInt(10), random.nextInt(10)};
            int step = random.nextInt(16);
            int weight = 1 + random.nextInt(200);
            int stride = 1 + random.nextInt(5);
            StairRegiment x = new StairRegiment();
            x.flight(16, 10);
            for (int what = 0; what < 4; what++) {
                x.set(what, 0, step, traits[what]);
            }
            int night = random.nextInt(3);
            if (night > 0) {
                x.nights(night);
            }
            facts = new int[] {weight, traits[1], traits[2], traits[3], 0, traits[0], step, 0, 0, stride, night};
            int due = Math.max(0, Math.min(1000, weight + 5 * traits[1] + 50 * traits[2]));
            StringBuilder law = new StringBuilder();
            boolean found = false;
            int lines = 0;
            for (int i = 1 + random.nextInt(4); i > 0; i--) {
                String e = sum();
                int v = Math.max(0, Math.min(1000, value));
                String line = "creaks " + e;
                truth = true;
                if (random.nextInt(4) != 0) {
                    line += " when " + condition(0);
                }
                line += ";";
                if (law.length() + line.length() > 400) {
                    break;
                }
                law.append(line);
                lines++;
                if (truth && !found) {
                    found = true;
                    due = v;
                }
            }
            check.due("text of " + law, Check.tell(x, 0, law.toString()), lines);
            check.due("creaks by " + law, x.creaks(0, step, weight, stride), due);
        }
    }
}
