/** The edges of promises 17 to 20, 23 and 24, thoughts about flights: a test for each sentence that names one. */
public final class EdgeThoughtTest {
    private static final Check check = new Check("EdgeThoughtTest");
    private static final int NONE = StairRegiment.NONE;
    private static final int MIN = Integer.MIN_VALUE;
    private static final int MAX = Integer.MAX_VALUE;

    public static void main(String[] args) {
        unheardBounds();
        fromTheGround();
        behindTheLastStep();
        notOnAMissingOne();
        creaksByHisStride();
        creaksFrom500();
        fewestCreaksBeforeFewestSteps();
        eightSuspects();
        suspectBounds();
        noneSuspectedThen();
        whoBounds();
        fitsWhoMakesJustThese();
        fitsWhoTreadsNone();
        missingMakesNoCreak();
        loosenTheFirst();
        loosenNineAtMost();
        loosenOfOneAlone();
        loosenFrom500();
        rosterBounds();
        rosterOfOnes();
        rosterOfTheWholeFlight();
        rosterFewerThanS();
        rosterMissingOnes();
        rosterTheLeast();
        rosterAsks();
        joinedBounds();
        joinedWithItself();
        joinedOneAlone();
        joinedDearCouples();
        levelFromOneStepOn();
        levelUpToTheHighest();
        mutinyBounds();
        nobodyBegins();
        rankOneAtLeast();
        asManyAsHisRank();
        besideEachOnce();
        throughDoors();
        missingNever();
        ofAllFlights();
        fewestOfOneStep();
        fewestByRank();
        fewestWithoutDoors();
        fewestAroundMissing();
        check.finish();
    }

    private static StairRegiment house(int steps, String law) {
        StairRegiment x = new StairRegiment();
        x.flight(steps, 10);
        check.whole(x, 0, law, law.length() - law.replace(";", "").length());
        return x;
    }

    private static void unheard(StairRegiment x, int s, int creaks, int steps) {
        check.due("unheard(0, 9, " + s + ", 0)", x.unheard(0, 9, s, 0), creaks);
        check.due("unheard(0, 9, " + s + ", 1)", x.unheard(0, 9, s, 1), steps);
    }

    // ---- UNHEARD, promise 17

    /** "by weight w", "1 .. s (1 .. 5)"; promise 17: "NONE, too, if one can't be, or another what". */
    private static void unheardBounds() {
        StairRegiment x = house(5, "creaks 500 when weight>100;creaks 0;");
        for (int what = 0; what <= 1; what++) {
            for (int s = 1; s <= 5; s++) {
                check.due("by weight 1", x.unheard(0, 1, s, what), what == 0 ? 0 : 5 / s);
                check.due("by weight 200", x.unheard(0, 200, s, what), 5 / s);
            }
            int[][] wrongs = {{0, 0, 1}, {0, 201, 1}, {0, -1, 1}, {0, MIN, 1}, {0, MAX, 1}, {0, 1, 0}, {0, 1, 6}, {0, 1, -1}, {0, 1, MIN}, {0, 1, MAX},
                {1, 1, 1}, {-1, 1, 1}, {6, 1, 1}, {MIN, 1, 1}, {MAX, 1, 1}};
            for (int[] w : wrongs) {
                check.due("unheard " + w[0] + " " + w[1] + " " + w[2], x.unheard(w[0], w[1], w[2], what), NONE);
            }
        }
        for (int what : new int[] {-1, 2, 3, MIN, MAX}) {
            check.due("unheard what " + what, x.unheard(0, 1, 1, what), NONE);
        }
    }

    /** "from the ground (one below STEP 0)": by a stride of 1 he comes to STEP 0. */
    private static void fromTheGround() {
        StairRegiment x = house(3, "creaks 500 when number=0;creaks 0;");
        unheard(x, 1, 1, 3);
        unheard(x, 2, 0, 1);
        unheard(x, 3, 0, 1);
        unheard(x, 4, 0, 0);
        StairRegiment y = house(1, "creaks 500;");
        unheard(y, 1, 1, 1);
        unheard(y, 2, 0, 0);
    }

    /** "till one goes behind the last STEP": he need not come to just one behind it. */
    private static void behindTheLastStep() {
        StairRegiment x = house(4, "creaks 0;");
        unheard(x, 1, 0, 4);
        unheard(x, 2, 0, 2);
        unheard(x, 3, 0, 1);
        unheard(x, 4, 0, 1);
        unheard(x, 5, 0, 0);
        StairRegiment y = house(16, "creaks 500;");
        unheard(y, 1, 16, 16);
        unheard(y, 5, 3, 3);
    }

    /** "he can't tread a missing one", "(NONE: he can't)". */
    private static void notOnAMissingOne() {
        for (int run = 1; run <= 5; run++) {
            for (int from = 0; from + run <= 7; from++) {
                StairRegiment x = house(7, "creaks 0;");
                for (int step = from; step < from + run; step++) {
                    x.order(2, 0, step);
                }
                for (int s = 1; s <= 5; s++) {
                    boolean can = run < s;
                    check.due("over " + run + " by " + s, x.unheard(0, 9, s, 0), can ? 0 : NONE);
                    check.due("over " + run + " by " + s, x.unheard(0, 9, s, 1) == NONE, !can);
                }
            }
        }
        StairRegiment x = house(2, "creaks 500;");
        x.order(1, 0, 0);
        x.order(1, 0, 1);
        unheard(x, 1, 2, 2);
    }

    /** "creaks by the stride by which he came to a STEP". */
    private static void creaksByHisStride() {
        StairRegiment x = house(6, "creaks 0 when stride=2;creaks 500;");
        unheard(x, 1, 6, 6);
        unheard(x, 2, 0, 3);
        unheard(x, 3, 0, 2);
        // behind the last STEP no stride creaks
        StairRegiment y = house(3, "creaks 0 when stride=3;creaks 500;");
        unheard(y, 3, 0, 1);
        unheard(y, 2, 1, 1);
    }

    /** "it creaks, if creaks is 500 at least". */
    private static void creaksFrom500() {
        for (int creaks : new int[] {0, 499, 500, 501, 1000}) {
            StairRegiment x = house(3, "creaks " + creaks + ";");
            unheard(x, 1, creaks >= 500 ? 3 : 0, 3);
        }
    }

    /** "on how few that would creak he treads; on how few STEPS in all then". */
    private static void fewestCreaksBeforeFewestSteps() {
        // by fives he would tread one that creaks, by smaller strides four that don't
        StairRegiment x = house(8, "creaks 500 when stride=5;creaks 500 when stride=4;creaks 500 when stride=3;creaks 0;");
        unheard(x, 5, 0, 2);
        StairRegiment y = house(8, "creaks 500 when stride>1;creaks 0;");
        unheard(y, 5, 0, 4);
        unheard(y, 2, 0, 7);
        StairRegiment z = house(8, "creaks 500;");
        unheard(z, 5, 1, 1);
        unheard(z, 4, 2, 2);
    }

    // ---- WHO, promises 18 and 19

    /** "up to 8 told suspects"; promise 18: "how many; NONE .. if there are eight". */
    private static void eightSuspects() {
        StairRegiment x = house(1, "creaks 500;");
        for (int i = 1; i <= 8; i++) {
            check.due("suspect", x.suspect(i, 1), i);
        }
        check.due("a ninth", x.suspect(9, 1), NONE);
        check.due("a ninth like another", x.suspect(1, 1), NONE);
        check.due("all eight fit", x.who(0, 1, 0), 255);
        check.due("none is then", x.suspect(NONE, 1), 0);
        check.due("the first again", x.suspect(1, 1), 1);
        check.due("one fits", x.who(0, 1, 0), 1);
    }

    /** "(weight 1 .. 200, stride 1 .. 5)"; promise 18: "NONE if one can't be". */
    private static void suspectBounds() {
        StairRegiment x = house(5, "creaks 500;");
        int[][] wrongs = {{0, 1}, {201, 1}, {-2, 1}, {MIN, 1}, {MAX, 1}, {1, 0}, {1, 6}, {1, -1}, {1, MIN}, {1, MAX}, {0, 0}};
        for (int[] w : wrongs) {
            check.due("suspect " + w[0] + " " + w[1], x.suspect(w[0], w[1]), NONE);
        }
        check.due("the first", x.suspect(1, 1), 1);
        check.due("the second", x.suspect(200, 5), 2);
        check.due("the third", x.suspect(200, 1), 3);
        for (int[] w : wrongs) {
            check.due("suspect " + w[0] + " " + w[1], x.suspect(w[0], w[1]), NONE);
        }
        check.due("who goes by ones", x.who(0, 31, 0), 5);
        check.due("who goes by fives", x.who(0, 16, 0), 2);
    }

    /** Promise 18: "(weight NONE: none is then)": whatever the stride is. */
    private static void noneSuspectedThen() {
        for (int stride : new int[] {1, 5, 0, 6, NONE, MIN, MAX}) {
            StairRegiment x = house(1, "creaks 500;");
            check.due("none yet", x.suspect(NONE, stride), 0);
            x.suspect(5, 1);
            x.suspect(6, 1);
            check.due("none is then", x.suspect(NONE, stride), 0);
            check.due("none fits", x.who(0, 1, 0), 0);
            check.due("none fits", x.who(0, 0, 0), 0);
            check.due("none tells", x.who(0, 0, 1), NONE);
        }
    }

    /** Promise 19: "a set of STEPS of a FLIGHT", "NONE if one can't be, or another what". */
    private static void whoBounds() {
        for (int steps = 1; steps <= 16; steps++) {
            StairRegiment x = house(steps, "creaks 500;");
            x.suspect(9, 1);
            for (int what = 0; what <= 1; what++) {
                check.due("all", x.who(0, (1 << steps) - 1, what), what == 0 ? 1 : NONE);
                check.due("one more", x.who(0, 1 << steps, what), NONE);
                check.due("none", x.who(0, 0, what), what == 0 ? 0 : NONE);
                for (int set : new int[] {-1, -2, MIN, MAX, 1 << 16, 1 << 30}) {
                    check.due("who " + set, x.who(0, set, what), NONE);
                }
                for (int flight : new int[] {1, -1, 6, MIN, MAX}) {
                    check.due("who of " + flight, x.who(flight, 0, what), NONE);
                }
            }
            for (int what : new int[] {-1, 2, MIN, MAX}) {
                check.due("who what " + what, x.who(0, 1, what), NONE);
            }
        }
    }

    /** "who .. would make creak just the STEPS of a set": none less, none more. */
    private static void fitsWhoMakesJustThese() {
        StairRegiment x = house(4, "creaks 500 when number>0;creaks 0;");
        x.suspect(9, 1);
        x.suspect(9, 2);
        x.suspect(8, 1);
        check.due("1, 2, 3", x.who(0, 14, 0), 5);
        check.due("1, 3", x.who(0, 10, 0), 2);
        for (int set = 0; set < 16; set++) {
            if (set != 14 && set != 10) {
                check.due("set " + set, x.who(0, set, 0), 0);
            }
        }
    }

    /** "going up a FLIGHT as a visit": whose stride is greater than the FLIGHT makes none creak. */
    private static void fitsWhoTreadsNone() {
        StairRegiment x = house(4, "creaks 1000;");
        x.suspect(9, 5);
        x.suspect(9, 4);
        check.due("he who treads none", x.who(0, 0, 0), 1);
        check.due("he who treads the highest", x.who(0, 8, 0), 2);
    }

    private static void missingMakesNoCreak() {
        StairRegiment x = house(3, "creaks 1000;");
        x.suspect(9, 1);
        x.order(2, 0, 1);
        x.order(1, 0, 2);
        check.due("on leave he creaks", x.who(0, 5, 0), 1);
        check.due("missing he does not", x.who(0, 7, 0), 0);
        check.due("no SALUTES in thought", x.look(2), 0);
    }

    /** "LOOSEN: the first STEP which .. some of those that fit would make creak, and some not (NONE)". */
    private static void loosenTheFirst() {
        StairRegiment x = house(5, "creaks 500 when loose>number and weight>100;creaks 0;");
        x.suspect(50, 1);
        x.suspect(150, 1);
        check.due("nobody is heard", x.who(0, 0, 0), 3);
        check.due("STEP 0 one looser", x.who(0, 0, 1), 0);
        x.order(2, 0, 0);
        check.due("a missing one tells nothing", x.who(0, 0, 1), NONE);
        for (int step = 4; step >= 1; step--) {
            x.set(2, 0, step, step);
            check.due("the first is " + step, x.who(0, 0, 1), step);
        }
        check.due("LOOSE stays", x.of(0, 1, 2), 1);
        // those that do not fit do not count: by 2 the first would be heard on his way
        x.set(2, 0, 1, 2);
        check.due("the heavier one is heard", x.who(0, 2, 0), 2);
        check.due("one alone", x.who(0, 2, 1), NONE);
        check.due("one alone", x.who(0, 0, 1), NONE);
    }

    /** "were it one looser (9 at most)". */
    private static void loosenNineAtMost() {
        StairRegiment x = house(2, "creaks 500 when loose>8 and weight>100 and number=1;creaks 500 when loose>9 and weight>100;creaks 0;");
        x.suspect(50, 1);
        x.suspect(150, 1);
        x.set(2, 0, 0, 9);
        x.set(2, 0, 1, 8);
        check.due("STEP 0 gets no looser", x.who(0, 0, 1), 1);
        x.set(2, 0, 1, 7);
        check.due("none", x.who(0, 0, 1), NONE);
    }

    /** "some .. and some not": of one, or of none, nothing is told; nor if all would, or none. */
    private static void loosenOfOneAlone() {
        StairRegiment x = house(1, "creaks 500 when loose=1;creaks 0;");
        x.suspect(50, 1);
        check.due("one alone", x.who(0, 0, 1), NONE);
        x.suspect(150, 1);
        check.due("both would", x.who(0, 0, 1), NONE);
        x.suspect(150, 2);
        check.due("one does not tread it", x.who(0, 0, 1), 0);
        x.set(2, 0, 0, 5);
        check.due("none would", x.who(0, 0, 1), NONE);
        check.due("none fits", x.who(0, 1, 1), NONE);
    }

    private static void loosenFrom500() {
        for (int base = 498; base <= 500; base++) {
            StairRegiment x = house(1, "creaks " + base + "+loose*1 when weight>100;creaks 0;");
            x.suspect(50, 1);
            x.suspect(150, 1);
            check.due("by " + base, x.who(0, 0, 0), base < 500 ? 3 : 1);
            check.due("one looser than " + base, x.who(0, 0, 1), base == 499 ? 0 : NONE);
        }
    }

    // ---- ROSTER, promise 20

    /** "ROSTER of a FLIGHT, s (1 .. 5)"; promise 20: "NONE, too, if one can't be, or another what". */
    private static void rosterBounds() {
        StairRegiment x = house(16, "creaks 0;");
        for (int what = 0; what <= 1; what++) {
            for (int s : new int[] {0, -1, 6, 7, MIN, MAX}) {
                check.due("roster by " + s, x.roster(0, s, what), NONE);
            }
            for (int flight : new int[] {1, -1, 6, MIN, MAX}) {
                check.due("roster of " + flight, x.roster(flight, 2, what), NONE);
            }
        }
        for (int what : new int[] {-1, 2, MIN, MAX}) {
            check.due("roster what " + what, x.roster(0, 2, what), NONE);
        }
        int[] many = {0, 8, 11, 12, 13};
        for (int s = 1; s <= 5; s++) {
            check.due("of sixteen by " + s, x.roster(0, s, 0), many[s - 1]);
        }
    }

    /** s = 1: each STEP is one of its own, and none may be on leave or missing. */
    private static void rosterOfOnes() {
        StairRegiment x = house(3, "creaks 0;");
        roster(x, 1, 0, 0);
        x.order(2, 0, 2);
        roster(x, 1, NONE, NONE);
    }

    private static void roster(StairRegiment x, int s, int many, int set) {
        check.due("roster(0, " + s + ", 0)", x.roster(0, s, 0), many);
        check.due("roster(0, " + s + ", 1)", x.roster(0, s, 1), set);
    }

    /** "of each s STEPS side by side in it (are there so many)": just s of them. */
    private static void rosterOfTheWholeFlight() {
        for (int s = 2; s <= 5; s++) {
            StairRegiment x = house(s, "creaks 0;");
            roster(x, s, s - 1, (1 << (s - 1)) - 1);
            for (int step = 0; step < s - 1; step++) {
                x.order(2, 0, step);
            }
            roster(x, s, 0, 0);
            x.order(2, 0, s - 1);
            roster(x, s, NONE, NONE);
        }
    }

    /** "(are there so many)": are there fewer, all may go; of missing ones alone nobody. */
    private static void rosterFewerThanS() {
        for (int s = 2; s <= 5; s++) {
            for (int steps = 1; steps < s; steps++) {
                StairRegiment x = house(steps, "creaks 0;");
                roster(x, s, steps, (1 << steps) - 1);
                x.order(2, 0, 0);
                roster(x, s, steps - 1, (1 << steps) - 2);
                for (int step = 1; step < steps; step++) {
                    x.order(2, 0, step);
                }
                roster(x, s, 0, 0);
            }
        }
    }

    /** "(missing ones are not)", "one at least, not missing, is not on leave", "(NONE: it can't be)". */
    private static void rosterMissingOnes() {
        StairRegiment x = house(6, "creaks 0;");
        x.order(2, 0, 2);
        x.order(2, 0, 3);
        roster(x, 2, NONE, NONE);
        roster(x, 3, 2, 33);
        x.order(2, 0, 4);
        roster(x, 3, NONE, NONE);
        // by four: 1 is alone from 1 to 4, and 5 from 2 to 5
        roster(x, 4, 1, 1);
        roster(x, 5, 2, 33);
    }

    /** "(of several the least)". */
    private static void rosterTheLeast() {
        int[][] due = {{4, 2, 2, 5}, {5, 2, 3, 21}, {4, 3, 3, 11}, {5, 3, 4, 27}, {6, 3, 4, 27}, {7, 3, 5, 91}, {5, 4, 4, 23}, {6, 5, 5, 47}};
        for (int[] d : due) {
            StairRegiment x = house(d[0], "creaks 0;");
            roster(x, d[1], d[2], d[3]);
        }
    }

    /** It is in thought: who is on leave now does not count, and stays. */
    private static void rosterAsks() {
        StairRegiment x = house(2, "creaks 0;");
        x.order(1, 0, 1);
        roster(x, 2, 1, 1);
        check.due("POST", x.of(0, 0, 4), 0);
        check.due("POST", x.of(0, 1, 4), 1);
    }

    // ---- JOINED and LEVEL, promise 23

    /** Promise 23: "NONE if there is none such, or another what". */
    private static void joinedBounds() {
        StairRegiment x = house(2, "creaks 0;");
        x.flight(3, 10);
        int[][] wrongs = {{0, 2}, {2, 0}, {2, 2}, {-1, 0}, {0, -1}, {6, 0}, {0, 6}, {MIN, 0}, {0, MIN}, {MAX, 0}, {0, MAX}};
        for (int what = 0; what <= 1; what++) {
            for (int[] w : wrongs) {
                check.due("joined " + w[0] + " " + w[1], x.joined(w[0], w[1], what), NONE);
            }
            check.due("joined", x.joined(0, 1, what), what == 0 ? 10 : 2);
            check.due("the other way", x.joined(1, 0, what), what == 0 ? 10 : 2);
        }
        for (int what : new int[] {-1, 2, MIN, MAX}) {
            check.due("joined what " + what, x.joined(0, 1, what), NONE);
        }
    }

    /** a and b may be one FLIGHT. */
    private static void joinedWithItself() {
        for (int steps = 1; steps <= 16; steps++) {
            StairRegiment x = house(steps, "creaks 0;");
            x.set(0, 0, steps - 1, 40);
            check.due("nothing is apart", x.joined(0, 0, 0), 0);
            check.due("all is in common", x.joined(0, 0, 1), steps);
        }
    }

    /** "each one alone its HEIGHT". */
    private static void joinedOneAlone() {
        StairRegiment x = new StairRegiment();
        x.flight(1, 40);
        x.flight(16, 5);
        check.due("35 apart, 15 alone", x.joined(0, 1, 0), 35 + 15 * 5);
        check.due("the other way", x.joined(1, 0, 0), 35 + 15 * 5);
        check.due("at 40", x.joined(0, 1, 1), 1);
        x.set(0, 1, 9, 40);
        check.due("alike, 15 alone", x.joined(0, 1, 0), 15 * 5);
        check.due("at 40", x.joined(0, 1, 1), 1);
        x.set(0, 1, 0, 6);
        check.due("none at 40", x.joined(0, 1, 1), 0);
    }

    /** "in their order", "the least": a couple may cost less than both alone, and alike ones may lie apart. */
    private static void joinedDearCouples() {
        StairRegiment x = new StairRegiment();
        x.flight(2, 5);
        x.flight(2, 5);
        x.set(0, 0, 0, 40);
        x.set(0, 1, 1, 40);
        // 40, 5 and 5, 40: 5 alone, 40 by 40, 5 alone
        check.due("5 alone on either side", x.joined(0, 1, 0), 10);
        x.set(0, 0, 1, 30);
        x.set(0, 1, 0, 30);
        // 40, 30 and 30, 40: two couples 10 apart each
        check.due("two couples", x.joined(0, 1, 0), 20);
        check.due("both at 70", x.joined(0, 1, 1), 1);
    }

    /** "how many heights from the ground (of 1 STEP up on) both have in common": not the ground itself. */
    private static void levelFromOneStepOn() {
        StairRegiment x = new StairRegiment();
        x.flight(1, 7);
        x.flight(1, 8);
        check.due("the ground does not count", x.joined(0, 1, 1), 0);
        x.set(0, 1, 0, 7);
        check.due("one STEP up", x.joined(0, 1, 1), 1);
        x.flight(16, 6);
        x.flight(16, 9);
        check.due("at 18, 36, 54, 72, 90", x.joined(2, 3, 1), 5);
        x.flight(16, 40);
        x.flight(16, 40);
        x.set(0, 5, 0, 39);
        check.due("always one below", x.joined(4, 5, 1), 0);
        x.set(0, 4, 15, 39);
        check.due("at the very top", x.joined(4, 5, 1), 1);
    }

    /** No FLIGHT goes on above its highest STEP: the next FLIGHT is another. */
    private static void levelUpToTheHighest() {
        StairRegiment x = new StairRegiment();
        x.flight(16, 5);
        x.flight(1, 10);
        x.flight(16, 10);
        check.due("at 10 .. 80", x.joined(2, 0, 1), 8);
        check.due("the other way", x.joined(0, 2, 1), 8);
        check.due("sixteen couples 5 apart", x.joined(0, 2, 0), 16 * 5);
    }

    // ---- MUTINY, promise 24

    /** Promise 24: "NONE if one can't be (one missing, one that there is not)". */
    private static void mutinyBounds() {
        StairRegiment x = house(3, "creaks 0;");
        x.flight(16, 10);
        for (int set : new int[] {8, 9, 15, 16, 65536, MAX, -2, -8, MIN}) {
            check.due("mutiny by " + set, x.mutiny(0, set), NONE);
        }
        check.due("all sixteen", x.mutiny(1, 65535), 16);
        check.due("a seventeenth", x.mutiny(1, 65536), NONE);
        for (int flight : new int[] {2, -1, 6, MIN, MAX}) {
            check.due("mutiny in " + flight, x.mutiny(flight, 0), NONE);
            check.due("mutiny in " + flight, x.mutiny(flight, 1), NONE);
            check.due("fewest in " + flight, x.mutiny(flight, NONE), NONE);
        }
        x.order(2, 0, 1);
        for (int set = 0; set < 8; set++) {
            check.due("with a missing one: " + set, x.mutiny(0, set) == NONE, (set & 2) != 0);
        }
        x.order(1, 0, 1);
        check.due("on leave he can begin", x.mutiny(0, 2), 3);
    }

    private static void nobodyBegins() {
        StairRegiment x = house(3, "creaks 0;");
        check.due("nobody", x.mutiny(0, 0), 0);
    }

    /** "as many .. as its RANK, 1 at least". */
    private static void rankOneAtLeast() {
        for (int rank = 0; rank <= 2; rank++) {
            StairRegiment x = house(2, "creaks 0;");
            x.set(3, 0, 1, rank);
            check.due("RANK " + rank, x.mutiny(0, 1), rank <= 1 ? 2 : 1);
        }
    }

    /** "as soon as as many beside it did as its RANK". */
    private static void asManyAsHisRank() {
        StairRegiment x = house(5, "creaks 0;");
        x.set(3, 0, 2, 2);
        check.due("from below", x.mutiny(0, 1), 2);
        check.due("from above", x.mutiny(0, 16), 2);
        check.due("from both", x.mutiny(0, 17), 5);
        x.set(3, 0, 2, 3);
        check.due("never by two", x.mutiny(0, 17), 4);
        check.due("unless he begins", x.mutiny(0, 4), 5);
        x.set(3, 0, 2, 9);
        check.due("nor by nine", x.mutiny(0, 27), 4);
        // whoever joined counts for others
        StairRegiment y = house(4, "creaks 0;");
        y.set(3, 0, 1, 2);
        check.due("3 by 2, 1 by 0 and 2", y.mutiny(0, 5), 4);
    }

    /** "beside it (each once)": two doors between the same two count once. */
    private static void besideEachOnce() {
        StairRegiment x = house(1, "creaks 0;");
        x.flight(1, 10);
        x.flight(1, 10);
        x.set(3, 1, 0, 2);
        check.whole(x, 3, "flight0step0door1step0;".repeat(2) + "flight1step0door0step0;", 3);
        check.due("once", x.mutiny(0, 1), 1);
        check.whole(x, 3, "flight0step0door1step0;flight2step0door1step0;flight0step0door2step0;", 3);
        check.due("by two others", x.mutiny(0, 1), 3);
    }

    /** "those through its DOORS": not those beside the other end. */
    private static void throughDoors() {
        StairRegiment x = house(3, "creaks 0;");
        x.flight(3, 10);
        check.whole(x, 3, "flight 0 step 2 door 1 step 1;", 1);
        x.set(3, 1, 1, 2);
        check.due("one through the door is too few for RANK 2", x.mutiny(0, 1), 3);
        x.set(3, 1, 1, 1);
        x.set(3, 1, 0, 2);
        check.due("one of RANK 2 stays", x.mutiny(0, 1), 5);
        check.whole(x, 3, "", 0);
        check.due("no door, no other FLIGHT", x.mutiny(0, 1), 3);
    }

    /** "(missing ones never)". */
    private static void missingNever() {
        StairRegiment x = house(5, "creaks 0;");
        x.flight(2, 10);
        check.whole(x, 3, "flight 0 step 2 door 1 step 0;", 1);
        x.order(2, 0, 2);
        check.due("up to the missing one", x.mutiny(0, 1), 2);
        check.due("he passes nothing on", x.mutiny(0, 27), 4);
        check.due("nor through a door", x.mutiny(1, 1), 2);
        x.order(0, 0, 2);
        check.due("he is back", x.mutiny(1, 1), 7);
    }

    /** "how many of all FLIGHTS have then": those of the set, too. */
    private static void ofAllFlights() {
        StairRegiment x = new StairRegiment();
        StringBuilder doors = new StringBuilder();
        for (int f = 0; f < 6; f++) {
            x.flight(16, 10);
            doors.append(f == 0 ? "" : "flight0step" + f + "door" + f + "step15;");
        }
        check.whole(x, 3, doors.toString(), 5);
        check.due("all 96", x.mutiny(3, 1), 96);
        check.due("all 96", x.mutiny(0, 1 << 15), 96);
        check.whole(x, 3, "", 0);
        check.due("of one FLIGHT", x.mutiny(3, 1), 16);
    }

    /** "FEWEST of one FLIGHT .. that must begin so that all not missing join". */
    private static void fewestOfOneStep() {
        for (int rank = 0; rank <= 9; rank++) {
            StairRegiment x = house(1, "creaks 0;");
            x.set(3, 0, 0, rank);
            check.due("he himself", x.mutiny(0, NONE), 1);
            x.order(2, 0, 0);
            check.due("nobody must", x.mutiny(0, NONE), 0);
        }
        for (int steps = 1; steps <= 16; steps++) {
            check.due("one of " + steps, house(steps, "creaks 0;").mutiny(0, NONE), 1);
        }
    }

    private static void fewestByRank() {
        int[][] ranks = {{2}, {1, 1}, {2, 2}, {2, 1}, {3, 3}, {1, 2, 1}, {2, 1, 2}, {1, 3, 1}, {2, 2, 2}, {9, 9, 9}, {1, 2, 2, 1}, {0, 2, 0, 2, 0}};
        int[] due = {1, 1, 2, 1, 2, 1, 2, 1, 2, 3, 2, 2};
        for (int i = 0; i < ranks.length; i++) {
            StairRegiment x = house(ranks[i].length, "creaks 0;");
            for (int step = 0; step < ranks[i].length; step++) {
                x.set(3, 0, step, ranks[i][step]);
            }
            check.due("fewest " + i, x.mutiny(0, NONE), due[i]);
        }
    }

    /** "(without DOORS)". */
    private static void fewestWithoutDoors() {
        StairRegiment x = house(1, "creaks 0;");
        x.flight(2, 10);
        x.set(3, 1, 0, 2);
        x.set(3, 1, 1, 2);
        check.due("both", x.mutiny(1, NONE), 2);
        check.whole(x, 3, "flight 0 step 0 door 1 step 0;flight 0 step 0 door 1 step 1;", 2);
        check.due("both, for all the doors", x.mutiny(1, NONE), 2);
    }

    /** "all not missing": a missing one parts those beside him. */
    private static void fewestAroundMissing() {
        StairRegiment x = house(16, "creaks 0;");
        check.due("one", x.mutiny(0, NONE), 1);
        x.order(2, 0, 8);
        check.due("one on either side", x.mutiny(0, NONE), 2);
        x.order(2, 0, 7);
        check.due("two that are missing part as one does", x.mutiny(0, NONE), 2);
        x.order(2, 0, 0);
        check.due("at an end he parts nobody", x.mutiny(0, NONE), 2);
        x.order(2, 0, 14);
        check.due("the highest is alone", x.mutiny(0, NONE), 3);
        x.set(3, 0, 15, 9);
        check.due("whatever his RANK", x.mutiny(0, NONE), 3);
        x.set(3, 0, 8, 9);
        check.due("a missing one's RANK is nothing", x.mutiny(0, NONE), 3);
        // RANK 2 beside a missing one: he has one beside him alone, and must begin
        x.set(3, 0, 6, 2);
        check.due("he begins for them", x.mutiny(0, NONE), 3);
        x.set(3, 0, 1, 2);
        check.due("and the one at the other end", x.mutiny(0, NONE), 4);
    }
}
