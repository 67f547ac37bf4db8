/** The edges of Terms 2 and of promises 8 to 11: a test for each sentence that names one. */
public final class EdgeTextTest {
    private static final Check check = new Check("EdgeTextTest");
    private static final int NONE = StairRegiment.NONE;
    private static final int MIN = Integer.MIN_VALUE;
    private static final int MAX = Integer.MAX_VALUE;

    private static final String[] ORDERS = {"watch", "leave", "desert", "carpet", "bare", "mend", "loosen"};
    private static final String[] FACTS = {"weight", "wear", "loose", "rank", "carpet", "height", "number", "heard", "failed", "stride", "night"};
    /** A whole line of each text. */
    private static final String[] WHOLE = {"creaks 7 + weight * 2 / 3 - 1 when not ( night = 1 or stride > 5 and wear < 3 ) ;",
        "on 7 flight 1 step 0 loosen ;", "on 7 flight 0 down weight 9 stride 5 ;", "flight 0 step 2 door 1 step 0 ;"};

    public static void main(String[] args) {
        textWithoutLines();
        eachWordOfEachText();
        keywordsOfThatTextAlone();
        lettersAsManyAsStandTogether();
        oneToFourDigits();
        everySignThatThereIs();
        nightBounds();
        weightAndStrideBounds();
        flightThatThereIsNot();
        stepOfThatFlight();
        notOfOneFlight();
        eitherWay();
        sixteenLinesAtMost();
        theEndIsTheLength();
        partByZero();
        firstByItsPlace();
        leastAtOnePlace();
        ninthThatIsOpen();
        intsWrap();
        partGoesTowardsZero();
        heldToBounds();
        firstThatIsSo();
        noneIsSo();
        sixteenthOfTheLaw();
        nothingOfTheOlderLaw();
        risesWithoutVisit();
        numberFromZero();
        lawOfTheStepsOwn();
        highestByteFirst();
        fourHundredAtMost();
        firstBytesAlone();
        emptyTapeThen();
        faultLeavesTheText();
        noSuchText();
        faultOfTheLatest();
        check.finish();
    }

    private static StairRegiment house() {
        StairRegiment x = new StairRegiment();
        x.flight(3, 10);
        x.flight(1, 20);
        return x;
    }

    /** A fresh house for each: what a text leaves does not count, and no object comes near its 512th call. */
    private static void whole(int k, String text, int lines) {
        check.whole(house(), k, text, lines);
    }

    private static void fault(int k, String text, int kind, int place) {
        check.fault(house(), k, text, kind, place);
    }

    // ---- Terms 2: what a text is

    /** "{..}": a text may have no line; "TEXTS (empty at first)". */
    private static void textWithoutLines() {
        for (int k = 0; k <= 3; k++) {
            for (String text : new String[] {"", " ", "\n", " \n ", " ".repeat(400)}) {
                StairRegiment x = house();
                check.whole(x, k, WHOLE[k], 1);
                check.whole(x, k, text, 0);
            }
            // without stairs, too
            check.whole(new StairRegiment(), k, "", 0);
        }
    }

    private static void eachWordOfEachText() {
        for (String word : new String[] {"creaks", "wears", "rises"}) {
            for (String fact : FACTS) {
                whole(0, word + " " + fact + ";", 1);
            }
        }
        for (String order : ORDERS) {
            whole(1, "on 1 flight 0 step 0 " + order + ";", 1);
        }
        whole(2, "on 1 flight 0 up weight 1 stride 1;on 1 flight 0 down weight 1 stride 1;", 2);
    }

    /** "letters .. are KEYWORDS (those told here for that text) or none": a KEYWORD of another text can't stand. */
    private static void keywordsOfThatTextAlone() {
        String[] words = {"creaks", "wears", "rises", "when", "or", "and", "not", "on", "flight", "step", "watch", "leave", "desert", "carpet", "bare",
            "mend", "loosen", "up", "down", "weight", "stride", "door", "loose", "rank"};
        String[] firsts = {" creaks wears rises ", " on ", " on ", " flight "};
        for (int k = 0; k <= 3; k++) {
            for (String word : words) {
                // the KEYWORD that may begin a line fails at the end, each other one where it stands
                boolean begins = firsts[k].contains(" " + word + " ");
                fault(k, " " + word, 1, begins ? 1 + word.length() : 1);
            }
        }
        for (String word : words) {
            if (!" weight loose rank carpet stride ".contains(" " + word + " ")) {
                fault(0, "creaks " + word + ";", 1, 7);
            }
            if (!String.join(" ", ORDERS).contains(word) || word.equals("loose")) {
                fault(1, "on 1 flight 0 step 0 " + word + ";", 1, 21);
            }
            if (!word.equals("up") && !word.equals("down")) {
                fault(2, "on 1 flight 0 " + word, 1, 14);
            }
            if (!word.equals("door")) {
                fault(3, "flight 0 step 0 " + word, 1, 16);
            }
        }
    }

    /** "letters as many as stand together are KEYWORDS .. or none". */
    private static void lettersAsManyAsStandTogether() {
        fault(0, "creak 1;", 1, 0);
        fault(0, "creakss 1;", 1, 0);
        fault(0, "creakswears 1;", 1, 0);
        fault(0, "Creaks 1;", 1, 0);
        fault(0, "CREAKS 1;", 1, 0);
        fault(0, "creakS 1;", 1, 0);
        fault(0, "creaks rank when 1=1orwear=1;", 1, 20);
        fault(0, "creaks l oose;", 1, 7);
        fault(0, "creaks lo", 1, 7);
        fault(0, "creaks loos", 1, 7);
        whole(0, "creaks loose;creaks wear;", 2);
        fault(0, "creaks loosen;", 1, 7);
        fault(0, "wear 1;", 1, 0);
        fault(0, "creaks wears;", 1, 7);
        fault(1, "onn 1", 1, 0);
        fault(1, "o n 1", 1, 0);
        fault(1, "on 1 flight 0 step 0 loose;", 1, 21);
        fault(2, "on1flight0upweight1stride1;", 1, 10);
        // digits end a word, and a word ends digits
        whole(0, "creaks1when1=1or1=2and3<4;", 1);
        whole(1, "on1flight0step0watch;", 1);
        whole(3, "flight0step0door1step0;", 1);
    }

    /** "digits as many as stand together NUMBERS of 1 to 4 digits or none". */
    private static void oneToFourDigits() {
        StairRegiment x = house();
        for (String number : new String[] {"0", "7", "07", "12", "012", "999", "0000", "0999"}) {
            check.whole(x, 0, "creaks " + number + ";", 1);
            check.due("creaks " + number, x.creaks(0, 0, 1, 1), Integer.parseInt(number));
        }
        check.whole(x, 0, "creaks 1000 when 9999=9998+1;", 1);
        check.due("9999", x.creaks(0, 0, 1, 1), 1000);
        for (String number : new String[] {"00000", "10000", "99999", "000001", "4294967297", "1".repeat(300)}) {
            check.fault(x, 0, "creaks " + number + ";", 1, 7);
        }
        check.fault(x, 0, "creaks 12 34;", 1, 10);
        check.fault(x, 1, "on 00000 flight 0 step 0 watch;", 1, 3);
        check.fault(x, 1, "on 1 flight 00000 step 0 watch;", 1, 12);
        check.whole(x, 1, "on 0999 flight 0000 step 0002 watch;", 1);
        check.fault(x, 0, "creaks 1/00001;", 1, 9);
    }

    /** "; + - * / ( ) < = > . Blanks (32, 10) between.": each of the 256 signs behind a NUMBER. */
    private static void everySignThatThereIs() {
        for (int sign = 0; sign < 256; sign++) {
            char c = (char) sign;
            String text = "creaks 1" + c + ";";
            if (sign == 32 || sign == 10 || c >= '0' && c <= '9') {
                whole(0, text, 1);
            } else {
                // behind these another token is due, the ; can't stand; all others can't stand themselves
                fault(0, text, 1, ";+-*/".indexOf(c) >= 0 ? 9 : 8);
            }
            if (sign != 32 && sign != 10) {
                fault(3, c + "", 1, 0);
            }
        }
        whole(0, "\n creaks\n\n1\n+ 2 * 3 / 4 - 5\nwhen ( 1 < 2 ) or 1 = 2 or 1 > 2\n;\n", 1);
    }

    // ---- Terms 2: bounds of the lines

    /** "NIGHT 0 .. 999". */
    private static void nightBounds() {
        whole(1, "on 0 flight 0 step 0 watch;on 999 flight 0 step 0 watch;", 2);
        whole(2, "on 0 flight 0 up weight 1 stride 1;on 999 flight 0 up weight 1 stride 1;", 2);
        fault(1, "on 1000 flight 0 step 0 watch;", 2, 3);
        fault(2, "on 1000 flight 0 up weight 1 stride 1;", 2, 3);
        fault(1, "on 9999 flight 0 step 0 watch;", 2, 3);
        fault(2, "on 9999 flight 0 up weight 1 stride 1;", 2, 3);
        // none below 0 can be told
        fault(1, "on -1 flight 0 step 0 watch;", 1, 3);
    }

    /** "(weight 1 .. 200, stride 1 .. 5.)" */
    private static void weightAndStrideBounds() {
        String head = "on 0 flight 0 down weight ";
        for (int weight : new int[] {1, 2, 199, 200}) {
            whole(2, head + weight + " stride 1;", 1);
        }
        for (int weight : new int[] {0, 201, 999, 9999}) {
            fault(2, head + weight + " stride 1;", 2, head.length());
        }
        head = "on 0 flight 0 down weight 1 stride ";
        for (int stride = 1; stride <= 5; stride++) {
            whole(2, head + stride + ";", 1);
        }
        for (int stride : new int[] {0, 6, 10, 9999}) {
            fault(2, head + stride + ";", 2, head.length());
        }
    }

    /** "2 (at the NUMBER) .. a FLIGHT .. that there is not". */
    private static void flightThatThereIsNot() {
        for (int flights = 0; flights <= 6; flights++) {
            StairRegiment x = grown(flights);
            for (int f = 0; f <= 9; f++) {
                boolean is = f < flights;
                String order = "on 1 flight " + f + " step 0 watch;";
                String visit = "on 1 flight " + f + " up weight 1 stride 1;";
                if (is) {
                    check.whole(x, 1, order, 1);
                    check.whole(x, 2, visit, 1);
                } else {
                    check.fault(x, 1, order, 2, 12);
                    check.fault(x, 2, visit, 2, 12);
                }
            }
            check.fault(x, 3, "flight " + flights + " step 0", 2, 7);
            if (flights > 0) {
                check.fault(x, 3, "flight 0 step 0 door " + flights + " step 0;", 2, 21);
            }
            if (flights > 1) {
                check.whole(x, 3, "flight 0 step 0 door " + (flights - 1) + " step 0;", 1);
            }
        }
    }

    private static StairRegiment grown(int flights) {
        StairRegiment x = new StairRegiment();
        for (int f = 0; f < flights; f++) {
            x.flight(1, 10);
        }
        return x;
    }

    /** "STEP of that FLIGHT", "a STEP that there is not". */
    private static void stepOfThatFlight() {
        for (int steps = 1; steps <= 16; steps++) {
            StairRegiment x = new StairRegiment();
            x.flight(steps, 10);
            x.flight(17 - steps, 10);
            for (int f = 0; f < 2; f++) {
                int size = f == 0 ? steps : 17 - steps;
                String head = "on 1 flight " + f + " step ";
                check.whole(x, 1, head + (size - 1) + " watch;", 1);
                check.fault(x, 1, head + size + " watch;", 2, head.length());
                head = "flight " + f + " step ";
                check.whole(x, 3, head + (size - 1) + " door " + (1 - f) + " step " + (17 - size - 1) + ";", 1);
                check.fault(x, 3, head + size + " door " + (1 - f) + " step 0;", 2, head.length());
                head = "flight " + f + " step 0 door " + (1 - f) + " step ";
                check.fault(x, 3, head + (17 - size) + ";", 2, head.length());
            }
        }
        check.fault(house(), 1, "on 1 flight 0 step 9999 watch;", 2, 19);
    }

    /** "not of one FLIGHT", "2 (at the NUMBER) .. the same FLIGHT again (of DOORS)". */
    private static void notOfOneFlight() {
        fault(3, "flight 0 step 0 door 0 step 1;", 2, 21);
        fault(3, "flight 0 step 0 door 0 step 0;", 2, 21);
        fault(3, "flight 1 step 0 door 1 step 0;", 2, 21);
        fault(3, "flight 0 step 0 door 0000 step 1;", 2, 21);
        fault(3, "flight 0 step 0 door 0", 2, 21);
        // again in another line it may stand
        whole(3, "flight 0 step 0 door 1 step 0;flight 1 step 0 door 0 step 1;flight 0 step 0 door 1 step 0;", 3);
    }

    /** "3 DOORS .. (either way ..)". */
    private static void eitherWay() {
        for (String door : new String[] {"flight 0 step 2 door 1 step 0;", "flight 1 step 0 door 0 step 2;"}) {
            StairRegiment x = house();
            check.whole(x, 3, door, 1);
            check.due("named on this side", x.of(0, 2, 9), 1);
            check.due("named on that side", x.of(1, 0, 9), 1);
            check.due("through to all of the other", x.mutiny(1, 1), 4);
            check.due("and back", x.mutiny(0, 4), 4);
        }
    }

    /** "16 lines of each at most.", "3 (at its KEYWORD) the 17th line of a text". */
    private static void sixteenLinesAtMost() {
        // sixteen VISITS have 448 bytes at least: they can't come by the TAPE
        String[] lines = {"rises 1;", "on0flight0step0mend;", null, "flight0step0door1step0;"};
        String[] words = {"creaks", "on", null, "flight"};
        for (int k = 0; k <= 3; k++) {
            if (lines[k] == null) {
                continue;
            }
            StairRegiment x = house();
            check.whole(x, k, lines[k].repeat(15), 15);
            String sixteen = lines[k].repeat(16);
            check.whole(x, k, sixteen, 16);
            check.fault(x, k, sixteen + lines[k], 3, sixteen.length());
            check.fault(x, k, sixteen + "\n " + words[k], 3, sixteen.length() + 2);
            check.fault(x, k, sixteen + words[k] + " nothing", 3, sixteen.length());
            check.due("sixteen stay", x.look(6 + k), 16);
            check.whole(x, k, lines[k], 1);
        }
        StairRegiment x = house();
        check.fault(x, 0, "creaks 1;".repeat(16) + "wears 1;", 3, 144);
        check.whole(x, 2, "on0flight0up weight1stride1;".repeat(14), 14);
    }

    // ---- Terms 2: FAULTS

    /** "1 what can't stand there (the end: the text's length)". */
    private static void theEndIsTheLength() {
        for (int k = 0; k <= 3; k++) {
            String[] tokens = WHOLE[k].split(" ");
            StringBuilder text = new StringBuilder();
            for (int i = 0; i + 1 < tokens.length; i++) {
                text.append(i == 0 ? "" : " ").append(tokens[i]);
                fault(k, text.toString(), 1, text.length());
                fault(k, text + " \n ", 1, text.length() + 3);
            }
            whole(k, WHOLE[k], 1);
            String full = WHOLE[k] + " ".repeat(399 - WHOLE[k].length());
            fault(k, full + "x", 1, 399);
        }
        fault(0, "creaks" + " ".repeat(394), 1, 400);
    }

    /** "2 (at the NUMBER) a part by 0". */
    private static void partByZero() {
        fault(0, "creaks 1/0;", 2, 9);
        fault(0, "creaks 1/00;", 2, 9);
        fault(0, "creaks 1 / 0000;", 2, 11);
        fault(0, "creaks 1/2/0;", 2, 11);
        fault(0, "creaks 1*2/0;", 2, 11);
        fault(0, "creaks weight/0;", 2, 14);
        fault(0, "creaks 1 when 1=1/0;", 2, 18);
        fault(0, "creaks 1;wears 2/0", 2, 17);
        whole(0, "creaks 0/1;", 1);
        whole(0, "creaks 0*0;", 1);
        check.due("just one", creaks("creaks 9999/9999;"), 1);
        fault(0, "creaks 1/weight;", 1, 9);
        fault(0, "creaks 1/;", 1, 9);
    }

    /** "FAULTS, the first by its place". */
    private static void firstByItsPlace() {
        fault(0, "creaks 1/0 wrong 10000 (", 2, 9);
        fault(0, "creaks wrong 1/0;", 1, 7);
        fault(0, "creaks 1; wrong 1/0;" + "creaks 1;".repeat(17), 1, 10);
        fault(0, "creaks 1/0 when " + "(".repeat(9), 2, 9);
        fault(0, "creaks 1 when " + "(".repeat(9) + "1/0", 3, 22);
        fault(0, "creaks 1 when " + "(".repeat(8) + "1/0" + "(", 2, 24);
        fault(0, "creaks 1;".repeat(15) + "creaks 1/0;creaks 1;", 2, 144);
        fault(0, "creaks 1;".repeat(16) + "creaks 1/0;", 3, 144);
        fault(1, "on 1000 flight 9 step 99 wrong;", 2, 3);
        fault(1, "on wrong flight 9 step 99;", 1, 3);
        fault(1, "on 1 flight 9 step 99 wrong", 2, 12);
        fault(1, "on 1 flight 1 step 1 wrong", 2, 19);
        fault(2, "on 1 flight 0 up weight 0 stride 0", 2, 24);
        fault(2, "on 1 flight 0 up weight 1 stride 0 wrong", 2, 33);
        fault(3, "flight 9 step 99 door 9 step 99", 2, 7);
        fault(3, "flight 0 step 99 door 0 step 99", 2, 14);
        fault(3, "flight 0 step 0 door 0 step 99", 2, 21);
    }

    /** "at one place the least". */
    private static void leastAtOnePlace() {
        // what can't stand there is 1, though it would be beyond a bound, a 17th line, a 9th that is open, too
        fault(1, "on 10000 flight 0 step 0 watch;", 1, 3);
        fault(0, "creaks 1/00000;", 1, 9);
        fault(0, "creaks 1;".repeat(16) + "on", 1, 144);
        fault(0, "creaks 1;".repeat(16) + "(", 1, 144);
        fault(1, "on0flight0step0mend;".repeat(16) + "flight", 1, 320);
        fault(3, "flight0step0door1step0;".repeat(16) + "on", 1, 368);
        fault(0, "creaks 1 when " + "(".repeat(8) + "1(", 1, 23);
        fault(0, "creaks 1 when " + "(".repeat(8) + "1=1 not", 1, 26);
        fault(0, "creaks (1);", 1, 7);
    }

    /** "3 .. (at it) the 9th ( or not that is open". */
    private static void ninthThatIsOpen() {
        String head = "creaks 1 when ";
        for (int nots = 0; nots <= 8; nots++) {
            String eight = "(".repeat(8 - nots) + "not ".repeat(nots);
            int length = head.length() + eight.length();
            whole(0, head + eight + "1=1" + ")".repeat(8 - nots) + ";", 1);
            fault(0, head + eight + "(1=1)" + ")".repeat(8 - nots) + ";", 3, length);
            fault(0, head + eight + "not 1=1" + ")".repeat(8 - nots) + ";", 3, length);
            fault(0, head + eight + "not", 3, length);
            fault(0, head + eight + "(", 3, length);
        }
        // behind its C a not is open no more, nor a ( behind its ), nor any in the next line
        String eight = "(".repeat(8) + "1=1" + ")".repeat(8);
        whole(0, head + eight + " and " + eight + " or " + eight + ";" + head + eight + ";", 2);
        whole(0, head + "not 1=1 or ".repeat(9) + "not 1=1;", 1);
        whole(0, head + "(((((((not 1=1 and not 1=1)))))));", 1);
        whole(0, head + "((((((((1=1) or 1=1) or 1=1) or 1=1) or 1=1) or 1=1) or 1=1) or (1=1));", 1);
        fault(0, head + "(((((((not 1=1 and not (1=1", 3, head.length() + 23);
    }

    // ---- Terms 2: what THE LAW tells

    private static int creaks(String law) {
        StairRegiment x = house();
        check.whole(x, 0, law, law.length() - law.replace(";", "").length());
        return x.creaks(0, 2, 77, 3);
    }

    /** "Ints, which wrap". */
    private static void intsWrap() {
        // 9999 * 9999 * 9999 is 233 times 2 to the 32nd less 1027349969
        check.due("a product wraps", creaks("creaks 1 when 9999*9999*9999+9999*9999*10+9999*2755=0-2714;creaks 2;"), 1);
        check.due("below 0", creaks("creaks 1 when 9999*9999*9999<0;creaks 2;"), 1);
        check.due("a sum wraps", creaks("creaks 1 when 9999*9999*21+9999*9999<0;creaks 2;"), 1);
        check.due("a difference wraps", creaks("creaks 1 when 0-9999*9999*21-9999*9999>0;creaks 2;"), 1);
        check.due("just around", creaks("creaks 16*8*8*4*8*8*8*8*8*8*8*8+5;"), 5);
        check.due("held behind the wrap", creaks("creaks 9999*9999*9999;"), 0);
    }

    /** "/ goes towards 0". */
    private static void partGoesTowardsZero() {
        check.due("above 0", creaks("creaks 7/2;"), 3);
        check.due("above 0", creaks("creaks 999/1000;"), 0);
        // -1027349969 / 1000 / 200 is -5136.7 and some
        check.due("below 0", creaks("creaks 1 when 9999*9999*9999/1000/200=0-5136;creaks 2;"), 1);
        check.due("below 0", creaks("creaks 5137+9999*9999*9999/1000/200;"), 1);
        check.due("one by one", creaks("creaks 9/2*2;"), 8);
        check.due("one by one", creaks("creaks 2*9/4;"), 4);
        check.due("one by one", creaks("creaks 9/2/2;"), 2);
    }

    /** "creaks held to 0 .. 1000, wears to 0 .. 99, rises to 0 .. 9". */
    private static void heldToBounds() {
        String[] words = {"creaks", "wears", "rises"};
        int[] most = {1000, 99, 9};
        for (int word = 0; word < 3; word++) {
            int m = most[word];
            String[] told = {"0", "1", "0-1", "0-9999", "" + (m - 1), "" + m, "" + (m + 1), "9999", "9999*9999", "9999*9999*9999"};
            int[] due = {0, 1, 0, 0, m - 1, m, m, m, m, 0};
            for (int i = 0; i < told.length; i++) {
                StairRegiment x = house();
                check.whole(x, 0, words[word] + " " + told[i] + ";", 1);
                int[] got = {x.creaks(0, 1, 200, 5), x.wears(0, 1, 200, 5), x.of(0, 1, 8)};
                check.due(words[word] + " " + told[i], got[word], due[i]);
                for (int other = 0; other < 3; other++) {
                    check.due(words[other] + " as without a line", other == word ? 0 : got[other], other == word ? 0 : other == 0 ? 200 : 1);
                }
            }
        }
    }

    /** "E of the first line with that word whose B is so, or that has none". */
    private static void firstThatIsSo() {
        check.due("the first", creaks("creaks 1 when 1=1;creaks 2 when 1=1;creaks 3;"), 1);
        check.due("the second", creaks("creaks 1 when 1=2;creaks 2 when 1=1;creaks 3;"), 2);
        check.due("that has none", creaks("creaks 1 when 1=2;creaks 2 when 1>1;creaks 3;creaks 4 when 1=1;"), 3);
        check.due("that has none ahead of all", creaks("creaks 4;creaks 1 when 1=1;"), 4);
        check.due("with that word", creaks("wears 9;rises 8;wears 7 when 1=1;creaks 6;"), 6);
    }

    /** "(none: creaks: weight and ..)": also where there are lines with that word, but no B is so. */
    private static void noneIsSo() {
        check.due("as without", creaks("creaks 1 when 1=2;creaks 2 when 2<2;creaks 3 when 2>2;"), 77);
        StairRegiment x = house();
        check.whole(x, 0, "wears 9 when 1=2;rises 9 when 1=2;creaks 9 when 1=2;", 3);
        check.due("wears 1", x.wears(0, 0, 9, 1), 1);
        check.due("rises 1", x.of(0, 0, 8), 1);
        check.due("creaks as weight", x.creaks(0, 0, 9, 1), 9);
    }

    /** The last of sixteen lines counts as the first does. */
    private static void sixteenthOfTheLaw() {
        check.due("the sixteenth", creaks("wears 1;".repeat(15) + "creaks 5;"), 5);
        check.due("the sixteenth", creaks("creaks 1 when 1=2;".repeat(15) + "creaks 6;"), 6);
        check.due("the sixteenth is not so", creaks("creaks 1 when 1=2;".repeat(16)), 77);
    }

    /** Promise 10: "The TAPE .. is TEXT k": nothing of a longer, older one is left. */
    private static void nothingOfTheOlderLaw() {
        StairRegiment x = house();
        check.whole(x, 0, "creaks 8/2;", 1);
        check.whole(x, 0, "creaks 8;", 1);
        check.due("no part any more", x.creaks(0, 0, 9, 1), 8);
        check.whole(x, 0, "creaks 8 when not 1=1;", 1);
        check.whole(x, 0, "creaks 8 when 1=1;", 1);
        check.due("no not any more", x.creaks(0, 0, 9, 1), 8);
        check.whole(x, 0, "creaks 8 when 1=1;", 1);
        check.whole(x, 0, "creaks 8;", 1);
        check.due("no B any more", x.creaks(0, 0, 9, 1), 8);
        check.whole(x, 0, "creaks 7;creaks 6;wears 5;rises 4;", 4);
        check.whole(x, 0, "creaks 3 when 1=2;", 1);
        check.due("no second line any more", x.creaks(0, 0, 9, 1), 9);
        check.due("no wears any more", x.wears(0, 0, 9, 1), 1);
        check.due("no rises any more", x.of(0, 0, 8), 1);
    }

    /** "weight, stride: of the visit (rises: 0)". */
    private static void risesWithoutVisit() {
        StairRegiment x = house();
        check.whole(x, 0, "rises 3+weight;", 1);
        check.due("weight 0", x.of(0, 0, 8), 3);
        check.whole(x, 0, "rises 3+stride;", 1);
        check.due("stride 0", x.of(0, 0, 8), 3);
        check.whole(x, 0, "rises 4 when weight=0 and stride=0;rises 5;", 1 + 1);
        x.creaks(0, 0, 200, 5);
        check.due("not that of a visit that was", x.of(0, 0, 8), 4);
    }

    /** "number: which STEP of its FLIGHT it is". */
    private static void numberFromZero() {
        StairRegiment x = new StairRegiment();
        x.flight(2, 10);
        x.flight(16, 10);
        check.whole(x, 0, "creaks number;", 1);
        for (int step = 0; step < 16; step++) {
            check.due("number", x.creaks(1, step, 9, 1), step);
        }
        check.due("number", x.creaks(0, 1, 9, 1), 1);
    }

    /** "the rest the STEP's; night". */
    private static void lawOfTheStepsOwn() {
        StairRegiment x = new StairRegiment();
        x.flight(16, 5);
        x.flight(16, 40);
        x.set(1, 1, 15, 99);
        x.set(2, 1, 15, 9);
        x.set(3, 1, 15, 8);
        x.order(3, 1, 15);
        x.nights(60);
        int[] due = {40, 99, 9, 8, 1, 60};
        String[] facts = {"height", "wear", "loose", "rank", "carpet", "night"};
        for (int i = 0; i < facts.length; i++) {
            check.whole(x, 0, "creaks " + facts[i] + ";", 1);
            check.due(facts[i], x.creaks(1, 15, 1, 1), due[i]);
            check.due(facts[i] + " of another", x.creaks(0, 15, 1, 1), i == 0 ? 5 : i == 5 ? 60 : 0);
            check.due(facts[i] + " of another", x.creaks(1, 14, 1, 1), i == 0 ? 40 : i == 5 ? 60 : 0);
        }
    }

    // ---- promises 8 to 11

    /** Promise 8: "Twenty bytes come behind the TAPE, of each number the highest first". */
    private static void highestByteFirst() {
        StairRegiment x = house();
        // "crea" "ks 1" "23 w" "hen " "1=1;"
        check.due("feed", x.feed(0x63726561, 0x6b732031, 0x32332077, 0x68656e20, 0x313d313b), 20);
        check.due("text", x.text(0), 1);
        check.due("creaks", x.creaks(0, 0, 9, 1), 123);
        // behind the TAPE: "creaks 1;" begins at byte 15
        x.feed(0x20202020, 0x20202020, 0x20202020, 0x20202063, 0x7265616b);
        check.due("behind it", x.feed(0x73203435, 0x3b202020, 0x20202020, 0x20202020, 0x20202020), 40);
        check.due("text", x.text(0), 1);
        check.due("creaks", x.creaks(0, 0, 9, 1), 45);
        // numbers below 0 are bytes, too
        check.due("feed", x.feed(-1, MIN, MAX, -2, 0), 20);
        check.due("text", x.text(0), NONE);
        check.due("place", x.fault(1), 0);
    }

    /** Promise 8: "NONE, and nothing comes, if there would be more than 400". */
    private static void fourHundredAtMost() {
        StairRegiment x = house();
        Check.feed(x, " ".repeat(380));
        check.due("just 400", x.feed(0x20202020, 0x20202020, 0x20202020, 0x20202020, 0x20202020), 400);
        check.due("more than 400", x.feed(-1, -1, -1, -1, -1), NONE);
        check.due("400 are there", x.end(400), true);
        check.due("more are not", x.end(401), false);
        check.due("nothing came", x.text(0), 0);
        Check.feed(x, " ".repeat(381));
        check.due("401 would be", x.feed(-1, -1, -1, -1, -1), NONE);
        check.due("nothing came", x.end(382), false);
        check.due("nothing came", x.text(0), 0);
        check.due("empty then: there is room", x.feed(0, 0, 0, 0, 0), 20);
    }

    /** Promise 9: "The TAPE has its first n bytes alone: true; false, changing nothing, if it has not so many, or n is below 0". */
    private static void firstBytesAlone() {
        StairRegiment x = house();
        check.due("0 of none", x.end(0), true);
        check.due("1 of none", x.end(1), false);
        Check.feed(x, "creaks 7;creaks 8;xx");
        for (int n : new int[] {21, 40, 400, 401, -1, -20, MIN, MAX}) {
            check.due("end(" + n + ")", x.end(n), false);
        }
        check.due("all", x.end(20), true);
        check.due("all but two", x.end(18), true);
        check.due("they are gone", x.end(19), false);
        check.due("the first nine", x.end(9), true);
        check.due("feed goes on behind them", x.feed(0x77656172, 0x7320393b, 0x20202020, 0x20202020, 0x20202020), 29);
        check.due("text", x.text(0), 2);
        check.due("creaks", x.creaks(0, 0, 1, 1), 7);
        check.due("wears", x.wears(0, 0, 1, 1), 9);
        Check.feed(x, "creaks 5;");
        check.due("nothing is left", x.end(0), true);
        check.due("nothing is left", x.text(0), 0);
    }

    /** Promise 10: "The TAPE, empty then": whole, with a FAULT, and of no such TEXT. */
    private static void emptyTapeThen() {
        for (int k = -1; k <= 4; k++) {
            for (String text : new String[] {"", "creaks 1;", WHOLE[1], WHOLE[2], WHOLE[3], "x".repeat(400)}) {
                StairRegiment x = house();
                Check.feed(x, text);
                x.text(k);
                check.due("text(" + k + "): empty then", x.end(1), false);
                check.due("text(" + k + "): feed", x.feed(0, 0, 0, 0, 0), 20);
            }
        }
    }

    /** Promise 10: "NONE: .. a FAULT (it stays as it was)". */
    private static void faultLeavesTheText() {
        StairRegiment x = house();
        for (int k = 0; k <= 3; k++) {
            check.whole(x, k, WHOLE[k], 1);
        }
        int creaks = x.creaks(0, 0, 50, 1);
        // what is whole ahead of the FAULT is not taken either
        check.fault(x, 0, "creaks 1;wears 5;rises 5;creaks", 1, 31);
        check.fault(x, 1, "on 0 flight 0 step 0 desert;on", 1, 30);
        check.fault(x, 2, "on 0 flight 0 up weight 1 stride 1;on", 1, 37);
        check.fault(x, 3, "flight 0 step 1 door 1 step 0;flight", 1, 36);
        check.due("THE LAW is as it was", x.creaks(0, 0, 50, 1), creaks);
        check.due("THE LAW is as it was", x.wears(0, 0, 50, 1), 1);
        check.due("DOORS are as they were", x.of(0, 1, 9), 0);
        check.due("DOORS are as they were", x.of(0, 2, 9), 1);
        x.nights(1);
        check.due("ORDERS are as they were", x.of(0, 0, 4), 0);
        check.due("VISITS are as they were", x.look(4), 0);
        x.nights(7);
        check.due("ORDERS are as they were", x.of(1, 0, 2), 1);
        check.due("VISITS are as they were", x.look(4), 1);
    }

    /** Promise 10: "NONE: no such one (fault() tells 0)". */
    private static void noSuchText() {
        for (int k : new int[] {-1, 4, 5, MIN, MAX}) {
            StairRegiment x = house();
            check.fault(x, 0, "creaks 1/0;", 2, 9);
            Check.feed(x, "creaks 1;");
            check.due("text(" + k + ")", x.text(k), NONE);
            check.due("fault(0)", x.fault(0), 0);
            check.due("fault(1)", x.fault(1), NONE);
            for (int what = 6; what <= 9; what++) {
                check.due("no text has come", x.look(what), 0);
            }
        }
    }

    /** Promise 11: "Of the latest text() what 0 the FAULT (0 without one), 1 its place (NONE). NONE for another what". */
    private static void faultOfTheLatest() {
        StairRegiment x = house();
        check.due("before any", x.fault(0), 0);
        check.due("before any", x.fault(1), NONE);
        Check.tell(x, 0, "creaks 1/0;");
        check.due("kind", x.fault(0), 2);
        check.due("place", x.fault(1), 9);
        // only text() tells another
        x.feed(0, 0, 0, 0, 0);
        x.end(0);
        x.undo();
        check.due("kind", x.fault(0), 2);
        check.due("place", x.fault(1), 9);
        check.due("asked again", x.fault(1), 9);
        for (int what : new int[] {-1, 2, 3, MIN, MAX}) {
            check.due("fault(" + what + ")", x.fault(what), NONE);
        }
        Check.tell(x, 1, "");
        check.due("whole", x.fault(0), 0);
        check.due("whole", x.fault(1), NONE);
        for (int what : new int[] {-1, 2, MIN, MAX}) {
            check.due("fault(" + what + ")", x.fault(what), NONE);
        }
        Check.tell(x, 0, "wrong");
        check.due("a place of 0", x.fault(1), 0);
    }
}
