/** The sentences about what is FORETOLD, and IMAGES, that name an edge, each by a test of its own. */
final class ForetoldEdgeTests extends Edges {
    private static final int[] NO_CLIMBERS = {-1, 5, 6, 99, MIN, MAX};
    private static final String SIX_SILKS = "t1,1;s99;s99;s99;s99;s99;s99;";

    private ForetoldEdgeTests() {
    }

    public static void main(String[] args) throws IllegalAccessException {
        run(ForetoldEdgeTests.class, args);
    }

    private static void planned(String text, int wear, int... sets) {
        planned(told(text), wear, sets);
    }

    private static void planned(TowerBraid x, int wear, int... sets) {
        int d = sets.length;
        due("plan of " + d, wear, x.plan(d, -1));
        for (int k = 0; k < d; k++) {
            due("plan of " + d + ", day " + k, sets[k], x.plan(d, k));
        }
    }

    private static void noPlan(TowerBraid x, int d) {
        for (int k = -1; k < d; k++) {
            due("no plan of " + d + ", " + k, NONE, x.plan(d, k));
        }
    }

    private static void fraction(TowerBraid x, int climber, int c, int above, int below) {
        due("above, " + climber + " by " + c, above, x.storm(climber, c, 0));
        due("below, " + climber + " by " + c, below, x.storm(climber, c, 1));
    }

    // ---- the use of an object

    @Says("An object is used for at most 512 calls after it has been made")
    private static void the512thCallIsAnsweredYet() {
        TowerBraid x = fed(new TowerBraid(), "t1,1;c1,1,0;");
        due("call 13", 1, x.tower());
        for (int call = 14; call <= 510; call++) {
            due("call " + call, call - 13, x.day());
        }
        due("call 511", 23, x.undo());
        due("call 512", 496 + 19, x.comes(0, 20));
    }

    // ---- Terms: borne, plans

    @Says("BORNE by a set: no STRAND of it would break (of those that are not GONE; whatever LONG is).")
    private static void oneIsBorneWhateverLongIs() {
        TowerBraid x = told("t99,1;s9;c9,1,0;c10,1,0;");
        due("short", 1, x.borne(0, 1));
        due("too heavy", 0, x.borne(1, 1));
        x.cut(1);
        due("cut whole", 1, x.borne(0, 1));
    }

    @Says("BORNE by a set: no STRAND of it would break (of those that are not GONE; whatever LONG is).")
    private static void oneIsNotBorneThoughOthersWouldHold() {
        TowerBraid x = told("t1,1;s9;s99;c20,1,0;");
        due("the silk of 9 breaks", 0, x.borne(0, 3));
        due("by the other", 1, x.borne(0, 2));
    }

    @Says("PLAN for d DAYS from this one on (1 to 3)")
    private static void plansAreFor1To3Days() {
        TowerBraid x = told("t1,1;r9;c9,1,0;");
        planned(x, 1, 1);
        noPlan(x, 2);
        TowerBraid y = told("t1,1;r11;c9,1,0;");
        planned(y, 1, 1);
        planned(y, 2, 1, 1);
        planned(y, 3, 1, 1, 1);
    }

    @Says("PLAN for d DAYS from this one on (1 to 3)")
    private static void plansBeginOnThisDay() {
        TowerBraid x = told("t1,1;r9;s9;c5,3,2;");
        planned(x, 0, 0, 0, 2);
        x.day();
        planned(x, 0, 0, 2, 0);
        x.day();
        planned(x, 0, 2, 0, 0);
        x.day();
        planned(x, 0, 0, 0, 2);
    }

    @Says("PLAN for d DAYS from this one on (1 to 3)")
    private static void plansStayWhateverIsPlannedBehindThem() {
        TowerBraid x = told("t1,1;h20;r30;r30;c39,3,2;c9,3,1;c25,3,0;");
        int[] wear = {1, 1, 3};
        int[][] sets = {{2}, {2, 1}, {2, 1, 6}};
        for (int before = 1; before <= 3; before++) {
            for (int d = 1; d <= 3; d++) {
                planned(x, wear[d - 1], sets[d - 1]);
                planned(x, wear[before - 1], sets[before - 1]);
            }
            due("never", NONE, x.never());
        }
    }

    @Says("a set for each DAY (0, if nobody is DUE on it)")
    private static void eachSetMayBePlanned() {
        for (int set = 1; set < 64; set++) {
            StringBuilder text = new StringBuilder("t1,1;");
            for (int s = 0; s < 6; s++) {
                text.append((set & 1 << s) != 0 ? "s9;" : "s1;");
            }
            text.append('c').append(9 * Integer.bitCount(set)).append(",1,0;");
            planned(text.toString(), 0, set, set, set);
        }
    }

    @Says("a set for each DAY (0, if nobody is DUE on it)")
    private static void nobodyIsDue() {
        planned("t1,1;s9;c9,2,1;", 0, 0, 1, 0);
        planned("t1,1;s9;", 0, 0, 0, 0);
        planned("t1,1;", 0, 0, 0, 0);
        planned("t1,1;c9,9,8;", 0, 0, 0, 0);
    }

    @Says("so that all CLIMBERS DUE on it (by numbers, one behind another), are BORNE by it")
    private static void climbersClimbByNumbers() {
        // The heavier one first: 20 of 20 holds, then 10 of 18. The lighter one first: 19 are left for 20.
        planned("t1,1;h20;c20,1,0;c10,1,0;", 3, 1);
        noPlan(told("t1,1;h20;c10,1,0;c20,1,0;"), 1);
    }

    @Says("so that all CLIMBERS DUE on it (by numbers, one behind another), are BORNE by it")
    private static void allWhoAreDueAreBorne() {
        planned("t1,1;s9;s20;c9,1,0;c20,1,0;", 0, 2);
        noPlan(told("t1,1;s9;s19;c9,1,0;c20,2,0;c30,1,0;"), 1);
        planned("t1,1;s9;s20;c9,1,0;c20,2,1;", 0, 1, 2);
    }

    @Says("LONG then being HIGH or more")
    private static void longIsHighOrMoreOnDaysOnWhichOneIsDue() {
        planned("t5,5;s9;c9,1,0;", 0, 1);
        noPlan(told("t5,4;s9;c9,1,0;"), 1);
        noPlan(told("t5,4;s9;c9,1,0;"), 3);
        planned("t5,4;s9;c9,2,1;", 0, 0, 1);
        noPlan(told("t5,3;s9;c9,2,1;"), 2);
        planned("t5,3;s9;c9,3,2;", 0, 0, 0, 1);
        noPlan(told("t5,2;s9;c9,3,2;"), 3);
        planned("t99,97;s9;c9,3,2;", 0, 0, 0, 1);
        planned("t99,1;s9;c9,9,8;", 0, 0, 0, 0);
    }

    @Says("STRANDS being WORN by those ahead")
    private static void strandsAreWornByThoseAhead() {
        planned("t1,1;h10;c10,1,0;", 1, 1);
        noPlan(told("t1,1;h10;c10,1,0;"), 2);
        planned("t1,1;h11;c10,1,0;", 2, 1, 1);
        noPlan(told("t1,1;h11;c10,1,0;"), 3);
        noPlan(told("t1,1;h10;c10,1,0;c10,1,0;"), 1);
        planned("t1,1;h11;c10,1,0;c10,1,0;", 2, 1);
        noPlan(told("t1,1;h11;c10,1,0;c10,1,0;"), 2);
    }

    @Says("STRANDS being WORN by those ahead")
    private static void strandsThatAreWornAlreadyBearLess() {
        TowerBraid x = plaited("t1,1;r9;r9;c9,1,0;", 1);
        planned(x, 1, 1);
        x.climb(0);
        planned(x, 1, 2);
        x.plait(2);
        x.climb(0);
        planned(x, 2, 3);
        x.undo();
        planned(x, 1, 2);
    }

    @Says("STRANDS being WORN by those ahead")
    private static void eachStrandIsWornByThoseAhead() {
        for (int s = 0; s < 6; s++) {
            String[] strands = {"s1;", "s1;", "s1;", "s1;", "s1;", "s1;"};
            strands[s] = "r10;";
            String text = "t1,1;" + String.join("", strands);
            TowerBraid x = plaited(text + "c9,1,0;", 1 << s);
            planned(x, 1, 1 << s);
            planned(x, 2, 1 << s, 1 << s);
            noPlan(x, 3);
            x.climb(0);
            planned(x, 1, 1 << s);
            noPlan(x, 2);
            x.climb(0);
            noPlan(x, 1);
            x.undo();
            planned(x, 1, 1 << s);
            noPlan(told(text + "c9,1,0;c9,1,0;c9,1,0;"), 1);
            planned(text + "c9,1,0;c9,1,0;", 2, 1 << s);
        }
    }

    @Says("a twine BEARS twice, if it is the only one.")
    private static void aTwineIsPlannedByHowManyStrandsThereAre() {
        // However many are due: alone it bears 20 and 20 less 1, in company 10.
        planned("t1,1;w10;c15,1,0;c19,1,0;", 2, 1);
        noPlan(told("t1,1;w10;c15,1,0;c20,1,0;"), 1);
        planned("t1,1;w10;c15,1,0;c15,1,0;c18,1,0;", 3, 1);
        noPlan(told("t1,1;w10;c15,1,0;c15,1,0;c19,1,0;"), 1);
        for (int c = 0; c < 5; c++) {
            String[] climbers = {"c1,9,8;", "c1,9,8;", "c1,9,8;", "c1,9,8;", "c1,9,8;"};
            climbers[c] = "c22,1,0;";
            noPlan(told("t1,1;w10;s10;" + String.join("", climbers)), 1);
            planned("t1,1;w11;s10;" + String.join("", climbers), 2, 1);
            climbers[c] = "c20,1,0;";
            planned("t1,1;w10;s10;" + String.join("", climbers), 1, 3);
            climbers[c] = "c23,1,0;";
            noPlan(told("t1,1;w11;s11;" + String.join("", climbers)), 1);
        }
    }

    @Says("a twine BEARS twice, if it is the only one.")
    private static void aTwineIsTheOnlyOneWhicheverItIs() {
        for (int s = 0; s < 6; s++) {
            String[] strands = {"s1;", "s1;", "s1;", "s1;", "s1;", "s1;"};
            strands[s] = "w10;";
            String text = "t1,1;" + String.join("", strands);
            TowerBraid x = plaited(text + "c20,1,0;c21,9,8;", 1 << s);
            planned(x, 2, 1 << s);
            noPlan(x, 2);
            due("20 alone", 1, x.borne(0, 1 << s));
            due("21 alone", 0, x.borne(1, 1 << s));
            due("needed", 1 << s, x.needed(0));
            due("strongest", 20, x.strongest(0));
            due("stoutest", 1 << s, x.strongest(1));
            fraction(x, 0, 5, 1, 2);
            due("it holds", 0, x.climb(0));
            noPlan(x, 1);
            due("it breaks", 1, x.climb(1));
        }
    }

    @Says("the one by which all STRANDS are WORN least at last (added)")
    private static void theLeastWearIsAdded() {
        // The twine alone by 39: 1 and 1. Three by 13: 1 each, which is 3.
        planned("t1,1;w20;r14;r14;r14;c39,1,0;", 2, 1);
        // Silk wears nothing, though it comes last.
        planned("t1,1;r9;h10;w9;s9;c9,1,0;", 0, 2);
        planned("t1,1;r9;r9;w9;s9;c9,1,0;", 0, 8);
    }

    @Says("the one by which all STRANDS are WORN least at last (added)")
    private static void theLeastWearIsThatAtLast() {
        // By the rope, first of the least on this day, the next day would cost 2: by the hair.
        planned("t1,1;r20;h20;c10,9,0;c20,9,1;", 2, 2, 1);
        planned("t1,1;r20;h20;c10,9,0;c20,9,1;", 1, 1);
    }

    @Says("of several the first by sets, DAY by DAY")
    private static void ofSeveralTheFirst() {
        planned("t1,1;s9;s9;s9;c9,1,0;", 0, 1, 1, 1);
        planned("t1,1;r9;r9;c9,1,0;", 2, 1, 2);
        planned("t1,1;s5;s9;s9;c9,1,0;", 0, 2);
        planned("t1,1;s5;s5;s5;c9,1,0;", 0, 3);
        planned("t1,1;s5;s5;s5;c9,2,1;", 0, 0, 3, 0);
    }

    @Says("by how much more they are WORN; the sets; NONE.")
    private static void onlyTheWearThatIsMoreIsTold() {
        TowerBraid x = plaited("t1,1;r20;c9,1,0;", 1);
        x.climb(0);
        x.climb(0);
        due("worn already", 2, x.strand(0, 1));
        planned(x, 1, 1);
        planned(x, 3, 1, 1, 1);
    }

    @Says("by how much more they are WORN; the sets; NONE.")
    private static void thereIsNoPlan() {
        noPlan(told("t1,1;c1,1,0;"), 1);
        noPlan(told("t1,1;s9;c10,1,0;"), 1);
        noPlan(told("t1,1;s9;c10,1,0;"), 2);
        noPlan(told("t1,1;s9;c10,3,2;"), 3);
        planned("t1,1;s9;c10,3,2;", 0, 0, 0);
        TowerBraid x = plaited("t1,1;s9;c10,1,0;c9,1,0;", 1);
        x.climb(0);
        noPlan(x, 1);
    }

    @Says("by how much more they are WORN; the sets; NONE.")
    private static void noSetOfAPlanHasOneThatIsGone() {
        TowerBraid x = plaited("t1,1;s9;s20;c20,1,0;c9,2,1;", 1);
        due("silk 9 breaks", 1, x.climb(0));
        planned(x, 0, 2, 2);
        TowerBraid y = plaited("t1,1;s5;s9;c9,1,0;", 1);
        y.climb(0);
        planned(y, 0, 2);
        y.undo();
        planned(y, 0, 2);
    }

    @Says("NEVER: the least d (1 to 3) for which there is none; NONE.")
    private static void neverIsTheLeastOf1To3() {
        due("at once", 1, told("t1,1;h9;c10,1,0;").never());
        due("not twice", 2, told("t1,1;h10;c10,1,0;").never());
        due("not thrice", 3, told("t1,1;h11;c10,1,0;").never());
        due("three times", NONE, told("t1,1;h12;c10,1,0;").never());
        due("on the third day", 3, told("t1,1;s9;c10,3,2;").never());
        due("on the fourth day", NONE, told("t1,1;s9;c10,4,3;").never());
        due("nobody", NONE, told("t9,1;").never());
        due("too short", 1, told("t9,1;s99;c1,1,0;").never());
        due("too short then", 2, told("t9,1;s99;c1,2,1;").never());
    }

    // ---- Terms: what counts for all that is foretold

    @Says("A CLIMBER pulls by WEIGHT, with a PEG by half of that (cut up)")
    private static void allIsForetoldByAPeg() {
        TowerBraid x = plaited("t1,1;s10;s10;c20,1,0;c19,2,1;", 3);
        x.row(0, 0, 2);
        x.set(0, 0, 1);
        x.set(0, 1, 10);
        for (int peg = 0; peg < 2; peg++) {
            String is = peg == 1 ? " with a peg" : " without a peg";
            due("borne" + is, peg, x.borne(0, 1));
            due("19 borne" + is, peg, x.borne(1, 1));
            planned(x, 0, 3 - 2 * peg);
            due("needed" + is, 3 - 3 * peg, x.needed(0));
            due("strongest" + is, 20 + 20 * peg, x.strongest(0));
            due("stoutest" + is, 3, x.strongest(1));
            due("by that" + is, 20 + 20 * peg, x.strongest(2));
            due("climbed by 10" + is, 3 - 3 * peg, x.climbed(10));
            due("climbed by 5" + is, 3 * peg, x.climbed(5));
            due("climbers" + is, 3 * peg, x.climbers(0, 0, 1));
            fraction(x, 0, 5, 1 + 2 * peg, 4);
            x.peg(1);
        }
        TowerBraid y = told("t1,1;s10;c20,1,0;");
        due("never without a peg", 1, y.never());
        y.peg(1);
        due("never with a peg", NONE, y.never());
        y.undo();
        due("never without it again", 1, y.never());
    }

    @Says("if its SHARE is no more than BEARS less how much it is WORN")
    private static void allIsForetoldByHowMuchStrandsAreWorn() {
        TowerBraid x = plaited("t1,1;r10;r10;c10,1,0;c16,2,1;", 1);
        due("borne", 1, x.borne(0, 1));
        due("strongest", 10, x.strongest(0));
        due("by both", 20, x.strongest(2));
        planned(x, 1, 1);
        fraction(x, 0, 5, 1, 2);
        x.climb(0);
        due("not borne", 0, x.borne(0, 1));
        due("not now", 0, x.climber(0, 4));
        due("needed", 1, x.needed(0));
        due("strongest", 9, x.strongest(0));
        due("by both", 18, x.strongest(2));
        planned(x, 1, 2);
        // 9 and 9 are left on the second day: by 5 each, then by 8 each.
        planned(x, 5, 2, 3);
        due("not never", NONE, x.never());
        fraction(x, 0, 5, 0, 1);
        x.plait(3);
        due("both are needed", 3, x.needed(1));
        due("the other is needed", 2, x.needed(0));
        fraction(x, 0, 5, 1, 2);
        due("strain is what it was", 5, x.climber(0, 5));
        due("climbed is what it was", 1, x.climbed(5));
    }

    @Says("a twine BEARS twice, if it is the only one.")
    private static void allIsForetoldByATwineAlone() {
        TowerBraid x = plaited("t1,1;w10;s10;c20,1,0;", 3);
        due("alone", 1, x.borne(0, 1));
        due("the silk alone", 0, x.borne(0, 2));
        due("the twine is needed", 1, x.needed(0));
        due("stoutest", 1, x.strongest(1));
        due("by that", 20, x.strongest(2));
        fraction(x, 0, 5, 1, 2);
        planned(x, 1, 3);
        TowerBraid y = plaited("t1,1;w10;c20,1,0;", 1);
        planned(y, 2, 1);
        due("18 are left then", 2, y.never());
        due("it is needed", 1, y.needed(0));
        due("strongest", 20, y.strongest(0));
        fraction(y, 0, 3, 7, 10);
        TowerBraid z = plaited("t1,1;w10;w10;c22,1,0;c20,1,0;", 3);
        due("not by both", 0, z.borne(0, 3));
        due("both are needed for 22", 3, z.needed(0));
        due("none for 20", 0, z.needed(1));
        noPlan(z, 1);
    }

    @Says("(of those that are not GONE; whatever LONG is)")
    private static void whateverLongIs() {
        TowerBraid x = plaited("t9,9;r10;r10;c10,1,0;", 3);
        x.cut(9);
        due("borne", 1, x.borne(0, 1));
        due("now", 1, x.climber(0, 4));
        due("needed", 0, x.needed(0));
        due("strongest", 20, x.strongest(0));
        due("stoutest", 3, x.strongest(1));
        due("climbed", 1, x.climbed(5));
        due("comes", 0, x.comes(0, 1));
        due("due", 1, x.due(0));
        fraction(x, 0, 5, 3, 4);
        noPlan(x, 1);
        due("never", 1, x.never());
    }

    @Says("3 FORETOLD (nothing changes).")
    private static void plansAreAnewBehindEachAct() {
        TowerBraid x = plaited("t5,5;r12;r11;c10,1,0;c18,4,3;", 1);
        planned(x, 3, 1, 1, 1);
        planned(x, 1, 1);
        x.climb(0);
        planned(x, 1, 1);
        planned(x, 3, 1, 1, 2);
        x.day();
        planned(x, 6, 1, 2, 3);
        due("not never", NONE, x.never());
        x.cut(2);
        noPlan(x, 1);
        due("at once", 1, x.never());
        x.undo();
        planned(x, 6, 1, 2, 3);
        x.peg(1);
        planned(x, 4, 1, 1, 2);
        x.undo();
        planned(x, 2, 1, 1);
        x.undo();
        planned(x, 3, 1, 1, 2);
        x.undo();
        planned(x, 3, 1, 1, 1);
    }

    @Says("3 FORETOLD (nothing changes).")
    private static void plansAreAnewBehindThoseThatThereWereNot() {
        int[][] sets = {{1}, {1, 1}, {1, 1, 1}};
        for (int none = 1; none <= 3; none++) {
            for (int d = 1; d <= 3; d++) {
                TowerBraid x = told("t1,1;s9;c10,1,0;");
                noPlan(x, none);
                x.peg(1);
                planned(x, 0, sets[d - 1]);
                x.undo();
                noPlan(x, d);
                x.peg(1);
                planned(x, 0, sets[none - 1]);
            }
        }
    }

    @Says("3 FORETOLD (nothing changes).")
    private static void plansAreAnewBehindATowerAndARestore() {
        TowerBraid x = told("t1,1;r9;c9,1,0;");
        x.image(1);
        planned(x, 1, 1);
        due("not twice", 2, x.never());
        fed(x, "t1,1;s9;s9;c9,3,2;").tower();
        planned(x, 0, 0, 0, 1);
        planned(x, 0, 0);
        due("always", NONE, x.never());
        x.restore(1);
        due("not twice again", 2, x.never());
        planned(x, 1, 1);
        noPlan(x, 3);
        fed(x, "t1,1!").tower();
        planned(x, 1, 1);
        fed(x, "t1,1;").tower();
        planned(x, 0, 0, 0, 0);
    }

    @Says("PLAN for d DAYS from this one on (1 to 3)")
    private static void plansAreWhateverWasPlannedBefore() {
        int[][] orders = {{1, 2, 3}, {1, 3, 2}, {2, 1, 3}, {2, 3, 1}, {3, 1, 2}, {3, 2, 1}};
        for (int[] order : orders) {
            TowerBraid x = told("t1,1;r9;r9;c18,3,2;c9,3,0;");
            for (int d : order) {
                plannedOnDay0(x, d);
            }
            due("on the third day", 3, x.never());
            x.day();
            for (int d : order) {
                plannedOnDay1(x, d);
            }
            due("on no day", NONE, x.never());
        }
    }

    @Says("PLAN for d DAYS from this one on (1 to 3)")
    private static void plansOfTheUsualTowerInAnyOrder() {
        int[][] orders = {{1, 2, 3}, {1, 3, 2}, {2, 1, 3}, {2, 3, 1}, {3, 1, 2}, {3, 2, 1}};
        for (int[] order : orders) {
            TowerBraid x = told("t20,20;h30;s12;g25;r18;w15;h9;c40,1,0;c55,3,2;c20,2,1;c90,9,4;");
            for (int d : order) {
                // By all but the twine 40 makes 8; on the third day 55 must be borne, too.
                planned(x, new int[] {1, 3, 10}[d - 1], new int[][] {{47}, {47, 47}, {47, 47, 31}}[d - 1]);
            }
            x.cut(2);
            noPlan(x, 1);
            x.day();
            noPlan(x, 1);
            x.undo();
            x.undo();
            planned(x, new int[] {1, 3, 10}[order[0] - 1], new int[][] {{47}, {47, 47}, {47, 47, 31}}[order[0] - 1]);
        }
    }

    private static void plannedOnDay0(TowerBraid x, int d) {
        switch (d) {
            case 1 -> planned(x, 1, 1);
            case 2 -> planned(x, 1, 1, 0);
            default -> noPlan(x, 3);
        }
    }

    private static void plannedOnDay1(TowerBraid x, int d) {
        switch (d) {
            case 1 -> planned(x, 0, 0);
            case 2 -> planned(x, 2, 0, 3);
            default -> planned(x, 4, 0, 3, 3);
        }
    }

    @Says("by how much more they are WORN; the sets; NONE.")
    private static void noSetOfAPlanHasOneThatIsGoneThoughItWouldBeLess() {
        TowerBraid x = plaited("t1,1;s9;r20;c20,9,8;c9,1,0;", 1);
        planned(x, 0, 1);
        due("the silk breaks", 1, x.climb(0));
        planned(x, 1, 2);
        planned(x, 3, 2, 2, 2);
        x.undo();
        planned(x, 0, 1, 1, 1);
    }

    @Says("STOUTEST: the set of all STRANDS that are not GONE by which that is most, of several the least.")
    private static void stoutestByWhichOneMayWeigh1() {
        due("1", 1, told("t1,1;s1;").strongest(1));
        due("by that", 1, told("t1,1;s1;").strongest(2));
        TowerBraid x = plaited("t1,1;r1;c1,1,0;", 1);
        x.climb(0);
        due("worn out: none", 0, x.strongest(1));
        due("by that", 0, x.strongest(2));
    }

    // ---- Terms: needed, strongest

    @Says("NEEDED: STRANDS (bits) of the PLAIT without any one of which a CLIMBER would not be BORNE by the others (all of the PLAIT, if it is not by all).")
    private static void neededAreThoseWithoutWhichOneIsNotBorne() {
        TowerBraid x = plaited("t1,1;s20;s19;s20;c40,1,0;c38,1,0;c57,1,0;c60,1,0;", 7);
        // 40 by two of 20 holds, by 20 and 19 it does not.
        due("40", 5, x.needed(0));
        due("38", 0, x.needed(1));
        due("57", 7, x.needed(2));
        due("60: not by all", 7, x.needed(3));
    }

    @Says("(all of the PLAIT, if it is not by all).")
    private static void allAreNeededIfOneIsNotBorneByAll() {
        TowerBraid x = plaited("t1,1;s9;s99;s99;c60,1,0;", 3);
        // By the second alone 60 is borne, by both it is not.
        due("both", 3, x.needed(0));
        x.plait(7);
        due("all three", 7, x.needed(0));
        x.plait(6);
        due("none of two", 0, x.needed(0));
        x.plait(2);
        due("the only one", 2, x.needed(0));
        x.plait(0);
        due("of none", 0, x.needed(0));
    }

    @Says("STRONGEST: the most a CLIMBER may weigh (1 to 99; 0: none would be) so as to be BORNE by the PLAIT")
    private static void strongestIs1To99Or0() {
        due("1", 1, plaited("t1,1;s1;", 1).strongest(0));
        due("98", 98, plaited("t1,1;s98;", 1).strongest(0));
        due("99", 99, plaited("t1,1;s99;", 1).strongest(0));
        due("two of 50", 99, plaited("t1,1;s50;s50;", 3).strongest(0));
        due("two of 49", 98, plaited("t1,1;s49;s49;", 3).strongest(0));
        due("a twine of 49", 98, plaited("t1,1;w49;", 1).strongest(0));
        due("a twine of 99", 99, plaited("t1,1;w99;", 1).strongest(0));
        due("an empty plait", 0, told("t1,1;s99;").strongest(0));
        TowerBraid x = plaited("t1,1;r1;c1,1,0;", 1);
        x.climb(0);
        due("worn out", 0, x.strongest(0));
    }

    @Says("STRONGEST: the most a CLIMBER may weigh (1 to 99; 0: none would be) so as to be BORNE by the PLAIT")
    private static void strongestByAPeg() {
        TowerBraid x = plaited("t1,1;s5;s7;", 2);
        x.peg(1);
        due("twice 7", 14, x.strongest(0));
        x.plait(3);
        due("twice 5 by two", 20, x.strongest(0));
        TowerBraid y = plaited("t1,1;s50;", 1);
        y.peg(1);
        due("99 of 100", 99, y.strongest(0));
        TowerBraid z = plaited("t1,1;s49;", 1);
        z.peg(1);
        due("98", 98, z.strongest(0));
    }

    @Says("STRONGEST: the most a CLIMBER may weigh (1 to 99; 0: none would be) so as to be BORNE by the PLAIT")
    private static void strongestIsByTheWeakest() {
        due("three by 5", 15, plaited("t1,1;s50;s5;s9;", 7).strongest(0));
        due("a twine of 5 in company", 10, plaited("t1,1;w5;s50;", 3).strongest(0));
        TowerBraid x = plaited("t1,1;w10;s50;c20,1,0;c15,1,0;", 1);
        x.climb(0);
        x.climb(1);
        x.climb(1);
        x.climb(1);
        due("worn by 5", 5, x.strand(0, 1));
        due("15 alone", 15, x.strongest(0));
        x.plait(3);
        due("5 each", 10, x.strongest(0));
    }

    @Says("STRONGEST: the most a CLIMBER may weigh (1 to 99; 0: none would be) so as to be BORNE by the PLAIT")
    private static void aTwineWornBeyondWhatItBearsOnce() {
        TowerBraid x = plaited("t1,1;w2;s50;c1,1,0;", 1);
        x.climb(0);
        x.climb(0);
        x.climb(0);
        due("worn by 3", 3, x.strand(0, 1));
        due("1 alone", 1, x.strongest(0));
        x.plait(3);
        due("nothing in company", 0, x.strongest(0));
        due("nor is anybody borne", 0, x.climber(0, 4));
        due("the silk alone", 2, x.strongest(1));
    }

    @Says("STOUTEST: the set of all STRANDS that are not GONE by which that is most, of several the least.")
    private static void stoutestIsTheLeastOfSeveral() {
        due("all of 20", 7, told("t1,1;s20;s20;s20;").strongest(1));
        due("two of 50 or three", 3, told("t1,1;s50;s50;s50;").strongest(1));
        due("the first of 99", 1, told("t1,1;s99;s99;").strongest(1));
        due("the second alone", 2, told("t1,1;s9;s99;").strongest(1));
        due("one of 20, to which another adds nothing", 1, told("t1,1;s20;s10;").strongest(1));
        due("one of 20 behind it", 2, told("t1,1;s10;s20;").strongest(1));
        due("all six", 63, told("t1,1;s9;s9;s9;s9;s9;s9;").strongest(1));
        due("by 99", 99, told("t1,1;s50;s50;s50;").strongest(2));
    }

    @Says("STOUTEST: the set of all STRANDS that are not GONE by which that is most, of several the least.")
    private static void stoutestHasNoneThatIsGone() {
        TowerBraid x = plaited("t1,1;s50;s20;s20;c99,1,0;", 1);
        due("at first", 7, x.strongest(1));
        x.climb(0);
        due("without it", 6, x.strongest(1));
        due("by that", 40, x.strongest(2));
        x.plait(6);
        x.climb(0);
        due("all are gone", 0, x.strongest(1));
        due("none by that", 0, x.strongest(2));
        x.undo();
        due("undone", 6, x.strongest(1));
    }

    @Says("STOUTEST: the set of all STRANDS that are not GONE by which that is most, of several the least.")
    private static void stoutestIsWhateverIsPlaited() {
        TowerBraid x = told("t1,1;s9;s30;");
        for (int set = 0; set < 4; set++) {
            x.plait(set);
            due("by plait " + set, 2, x.strongest(1));
            due("30 by plait " + set, 30, x.strongest(2));
        }
    }

    // ---- Terms: cut by at most, comes

    @Says("CUT by at most: how much may be CUT now so that LONG is HIGH or more on each of 9 DAYS, from this one on, on which some CLIMBER is DUE")
    private static void thisDayIsOneOfTheNine() {
        due("by 4", 4, told("t5,9;c1,9,0;").cutMost());
        due("by nothing", 0, told("t9,9;c1,9,0;").cutMost());
        TowerBraid x = told("t5,9;c1,9,0;");
        x.day();
        due("in eight days", 10, x.cutMost());
    }

    @Says("CUT by at most: how much may be CUT now so that LONG is HIGH or more on each of 9 DAYS, from this one on, on which some CLIMBER is DUE")
    private static void theNinthDayIsOneOfThem() {
        due("in eight days", 8, told("t9,9;c1,9,8;").cutMost());
        due("just so", 0, told("t9,1;c1,9,8;").cutMost());
        due("one too short", NONE, told("t10,1;c1,9,8;").cutMost());
        for (int off = 0; off < 9; off++) {
            due("in " + off, off, told("t9,9;c1,9," + off + ";").cutMost());
        }
    }

    @Says("CUT by at most: how much may be CUT now so that LONG is HIGH or more on each of 9 DAYS, from this one on, on which some CLIMBER is DUE")
    private static void theSoonestIsTheLeast() {
        due("of two", 2, told("t9,9;c1,9,5;c1,4,2;").cutMost());
        due("of two the other way", 2, told("t9,9;c1,4,2;c1,9,5;").cutMost());
        due("of five", 1, told("t9,9;c1,9,8;c1,8,7;c1,7,6;c1,9,1;c1,5,4;").cutMost());
    }

    @Says("CUT by at most: how much may be CUT now so that LONG is HIGH or more on each of 9 DAYS, from this one on, on which some CLIMBER is DUE")
    private static void whatIsCutGrowsBehind99() {
        due("8 of 99", 8, told("t99,99;c1,9,8;").cutMost());
        due("12 of 99", 12, told("t95,99;c1,9,8;").cutMost());
        due("99 of 99", 99, told("t1,99;c1,2,1;").cutMost());
        due("98 of 99", 98, told("t1,99;c1,1,0;").cutMost());
    }

    @Says("CUT by at most: how much may be CUT now so that LONG is HIGH or more on each of 9 DAYS, from this one on, on which some CLIMBER is DUE")
    private static void noMoreMayBeCutThanThereIs() {
        TowerBraid x = told("t1,2;c1,9,8;");
        due("all of it", 2, x.cutMost());
        due("so it is cut", 0, x.cut(2));
        due("nothing of nothing", 0, x.cutMost());
        due("so it is not cut", STATE, x.cut(1));
    }

    @Says("NONE: nobody is, or it is too short for it already.")
    private static void nothingMayBeCutIfNobodyIsDue() {
        due("nobody", NONE, told("t1,99;s9;").cutMost());
        due("nobody of a short one", NONE, told("t9,1;").cutMost());
    }

    @Says("NONE: nobody is, or it is too short for it already.")
    private static void nothingMayBeCutIfItIsTooShort() {
        due("by one", NONE, told("t9,8;c1,1,0;").cutMost());
        due("by one on day 1", NONE, told("t9,7;c1,2,1;").cutMost());
        due("long enough on day 1", 0, told("t9,8;c1,2,1;").cutMost());
        due("by far", NONE, told("t99,1;c1,9,8;").cutMost());
        TowerBraid x = told("t9,9;c1,1,0;");
        due("long enough", 0, x.cutMost());
        x.cut(1);
        due("cut", NONE, x.cutMost());
        x.day();
        due("grown", 0, x.cutMost());
    }

    @Says("COMES: the DAY on which a CLIMBER is DUE for the n-th time (1 to 20) from this DAY on.")
    private static void comesCountsThisDay() {
        TowerBraid x = told("t1,1;c1,3,2;c1,1,0;c1,9,8;");
        int[] first = {2, 2, 2, 5, 5, 5, 8, 8, 8, 11};
        for (int d = 0; d < 10; d++) {
            due("first on day " + d, first[d], x.comes(0, 1));
            due("second on day " + d, first[d] + 3, x.comes(0, 2));
            due("each day, first on day " + d, d, x.comes(1, 1));
            due("in nine, first on day " + d, d <= 8 ? 8 : 17, x.comes(2, 1));
            x.day();
        }
    }

    @Says("COMES: the DAY on which a CLIMBER is DUE for the n-th time (1 to 20) from this DAY on.")
    private static void comesUpTo20Times() {
        TowerBraid x = told("t1,1;c1,9,8;c1,1,0;c1,2,0;");
        for (int n = 1; n <= 20; n++) {
            due("of nine, " + n, 9 * n - 1, x.comes(0, n));
            due("each day, " + n, n - 1, x.comes(1, n));
            due("of two, " + n, 2 * n - 2, x.comes(2, n));
        }
    }

    // ---- Terms: who climbed

    @Says("CLIMBED by a STRAIN (0 to 99): CLIMBERS (bits) who would make that by the PLAIT now.")
    private static void climbedBy0IsByAnEmptyPlait() {
        TowerBraid x = told("t1,1;s9;c1,1,0;c99,1,0;c50,1,0;");
        due("all make 0", 7, x.climbed(0));
        each("nobody makes", 0, x::climbed, 1, 50, 99);
        x.plait(1);
        due("nobody makes 0", 0, x.climbed(0));
    }

    @Says("CLIMBED by a STRAIN (0 to 99): CLIMBERS (bits) who would make that by the PLAIT now.")
    private static void climbedBy99() {
        TowerBraid x = plaited("t1,1;s9;c98,1,0;c99,1,0;c99,1,0;", 1);
        due("99", 6, x.climbed(99));
        due("98", 1, x.climbed(98));
        x.peg(1);
        due("no more with a peg", 0, x.climbed(99));
        due("50", 6, x.climbed(50));
        due("49", 1, x.climbed(49));
    }

    @Says("all of one and the same CLIMBER, by sets that are told beside (set, STRAIN, set, ..; STRANDS that are GONE count, too)")
    private static void strandsThatAreGoneCount() {
        TowerBraid x = plaited("t1,1;s1;s1;s99;c20,1,0;", 3);
        due("both break", 2, x.climb(0));
        x.row(0, 2, 6);
        int[] items = {3, 10, 7, 7, 1, 20};
        for (int i = 0; i < 6; i++) {
            x.set(0, i, items[i]);
        }
        due("by those that are gone", 1, x.climbers(0, 0, 3));
        x.set(0, 1, 20);
        due("not so", 0, x.climbers(0, 0, 1));
    }

    @Says("all of one and the same CLIMBER, by sets that are told beside (set, STRAIN, set, ..; STRANDS that are GONE count, too)")
    private static void allAreOfOneAndTheSame() {
        TowerBraid x = told(SIX_SILKS + "c40,1,0;c41,1,0;c20,1,0;");
        x.row(0, 0, 6);
        int[] items = {7, 14, 3, 20, 1, 20};
        for (int i = 0; i < 6; i++) {
            x.set(0, i, items[i]);
        }
        due("40 or 41", 3, x.climbers(0, 0, 1));
        due("40", 1, x.climbers(0, 0, 2));
        due("nobody", 0, x.climbers(0, 0, 3));
        due("20 alone", 4, x.climbers(0, 4, 1));
        x.plait(63);
        due("whatever is plaited", 1, x.climbers(0, 0, 2));
        x.peg(1);
        due("40, halved", 1, x.climbers(0, 4, 1));
    }

    // ---- Terms: storm

    @Says("STORM: each STRAND of the PLAIT breaks by c of 10, each by itself: that a CLIMBER is BORNE by those left: a fraction.")
    private static void stormOf0AndOf10() {
        TowerBraid x = plaited(SIX_SILKS + "c99,1,0;c1,1,0;", 63);
        fraction(x, 0, 0, 1, 1);
        fraction(x, 0, 10, 0, 1);
        TowerBraid y = plaited("t1,1;s9;s9;c19,1,0;", 3);
        fraction(y, 0, 0, 0, 1);
        fraction(y, 0, 10, 0, 1);
    }

    @Says("STORM: each STRAND of the PLAIT breaks by c of 10, each by itself: that a CLIMBER is BORNE by those left: a fraction.")
    private static void stormOfSixStrands() {
        // All but that all six break: 1 less c to the sixth.
        TowerBraid x = plaited(SIX_SILKS + "c99,1,0;", 63);
        fraction(x, 0, 1, 999999, 1000000);
        fraction(x, 0, 2, 15624, 15625);
        fraction(x, 0, 3, 999271, 1000000);
        fraction(x, 0, 4, 15561, 15625);
        fraction(x, 0, 5, 63, 64);
        fraction(x, 0, 6, 14896, 15625);
        fraction(x, 0, 7, 882351, 1000000);
        fraction(x, 0, 8, 11529, 15625);
        fraction(x, 0, 9, 468559, 1000000);
    }

    @Says("STORM: each STRAND of the PLAIT breaks by c of 10, each by itself: that a CLIMBER is BORNE by those left: a fraction.")
    private static void stormThatAllMustOutlast() {
        TowerBraid x = plaited("t1,1;s10;s10;s10;s10;s10;s10;c60,1,0;", 63);
        fraction(x, 0, 1, 531441, 1000000);
        fraction(x, 0, 5, 1, 64);
        fraction(x, 0, 9, 1, 1000000);
    }

    @Says("STORM: each STRAND of the PLAIT breaks by c of 10, each by itself: that a CLIMBER is BORNE by those left: a fraction.")
    private static void stormThatBreaksTheRightOne() {
        // 20 by 9 and 15 is not borne, by the twine alone it is: the hair must break.
        TowerBraid x = plaited("t1,1;h9;w15;c20,1,0;", 3);
        fraction(x, 0, 3, 21, 100);
        fraction(x, 0, 5, 1, 4);
        fraction(x, 0, 0, 0, 1);
        x.plait(2);
        fraction(x, 0, 3, 7, 10);
        x.plait(1);
        fraction(x, 0, 3, 0, 1);
    }

    @Says("but fractions, told as two numbers in lowest terms (0 is 0 by 1).")
    private static void fractionsAreInLowestTerms() {
        TowerBraid x = plaited("t1,1;s9;s9;c9,1,0;c18,1,0;c19,1,0;", 1);
        fraction(x, 0, 2, 4, 5);
        fraction(x, 0, 5, 1, 2);
        fraction(x, 0, 3, 7, 10);
        x.plait(3);
        fraction(x, 1, 4, 9, 25);
        fraction(x, 1, 5, 1, 4);
        fraction(x, 0, 5, 3, 4);
    }

    @Says("but fractions, told as two numbers in lowest terms (0 is 0 by 1).")
    private static void aFractionOf0Is0By1() {
        TowerBraid x = plaited("t1,1;s9;s9;c9,1,0;c18,1,0;c19,1,0;", 3);
        for (int c = 0; c <= 10; c++) {
            fraction(x, 2, c, 0, 1);
        }
        x.plait(0);
        for (int c = 0; c <= 10; c++) {
            fraction(x, 0, c, 0, 1);
        }
    }

    // ---- Promise 17

    @Says(of = 17, value = "CLIMBERS who are DUE d DAYS from now (0 to 99; bits). BAD;")
    private static void dueIs0To99DaysFromNow() {
        TowerBraid x = told("t1,1;c1,9,0;c1,2,1;c1,1,0;c1,5,4;c1,7,1;");
        due("this day", 5, x.due(0));
        due("in one", 22, x.due(1));
        due("in 98", 4, x.due(98));
        due("in 99", 31, x.due(99));
        x.day();
        due("this day", 22, x.due(0));
        due("in 98", 31, x.due(98));
        due("in 99", 4, x.due(99));
    }

    @Says(of = 17, value = "CLIMBERS who are DUE d DAYS from now")
    private static void dueOnFarDays() {
        TowerBraid x = told("t1,1;s9;c1,9,8;c9,7,3;");
        for (int d = 1; d <= 400; d++) {
            x.day();
        }
        // 400 leaves 4 of 9 and 1 of 7.
        for (int d = 0; d < 20; d++) {
            due("in " + d, ((d + 4) % 9 == 8 ? 1 : 0) + ((d + 1) % 7 == 3 ? 2 : 0), x.due(d));
        }
        due("in 99", 0, x.due(99));
        due("in 93", 2, x.due(93));
        due("comes", 404, x.comes(0, 1));
        due("comes the 20th time", 575, x.comes(0, 20));
        planned(x, 0, 0, 0, 1);
    }

    @Says(of = 17, value = "(0 to 99; bits). BAD;")
    private static void dueFartherThan99IsBad() {
        TowerBraid x = told("t1,1;c1,1,0;");
        each("due in", BAD, x::due, -1, -99, 100, 101, 999, MIN, MAX);
    }

    @Says(of = 17, value = "STATE: no TOWER (ahead of BAD).")
    private static void dueWithoutATowerIsState() {
        TowerBraid x = new TowerBraid();
        each("due in", STATE, x::due, 0, 99, -1, 100, MIN, MAX);
    }

    @Says(of = 17, value = "CLIMBERS who are DUE")
    private static void nobodyIsDueOfNone() {
        TowerBraid x = told("t1,1;s1;");
        each("due in", 0, x::due, 0, 1, 99);
    }

    // ---- Promise 18

    @Says(of = 18, value = "Whether a CLIMBER is BORNE by a set (1, 0: also by none).")
    private static void nobodyIsBorneByNone() {
        TowerBraid x = plaited("t1,1;s99;c1,1,0;", 1);
        due("by none", 0, x.borne(0, 0));
        due("by one", 1, x.borne(0, 1));
        due("by none of none", 0, told("t1,1;c1,1,0;").borne(0, 0));
    }

    @Says(of = 18, value = "BAD; STATE: one of them is GONE.")
    private static void borneOfNobodyOrByNoSetIsBad() {
        TowerBraid x = told(SIX_SILKS + "c1,1,0;c1,1,0;c1,1,0;c1,1,0;c1,1,0;");
        each("climber", BAD, c -> x.borne(c, 1), NO_CLIMBERS);
        each("set", BAD, set -> x.borne(0, set), 64, 65, 127, -1, MIN, MAX);
        due("the last by all", 1, x.borne(4, 63));
        TowerBraid y = told("t1,1;s1;s1;c1,1,0;");
        each("climber of one", BAD, c -> y.borne(c, 1), 1, 4, -1);
        each("set of two", BAD, set -> y.borne(0, set), 4, 5, 63, -1);
        each("no tower, set", BAD, set -> new TowerBraid().borne(0, set), 0, 1, 64, -1);
    }

    @Says(of = 18, value = "BAD; STATE: one of them is GONE.")
    private static void borneByOneThatIsGoneIsState() {
        TowerBraid x = plaited("t1,1;s1;s99;s99;c9,1,0;", 1);
        x.climb(0);
        each("set", STATE, set -> x.borne(0, set), 1, 3, 5, 7);
        each("set of others", 1, set -> x.borne(0, set), 2, 4, 6);
        due("none", 0, x.borne(0, 0));
        each("bad ahead of it, climber", BAD, c -> x.borne(c, 1), 1, -1, MAX);
        each("bad ahead of it, set", BAD, set -> x.borne(0, set), 9, 15, -1, -7, MIN + 1);
    }

    // ---- Promise 19

    @Says(of = 19, value = "PLAN: how much more all are WORN (k = -1), the set of the k-th DAY (0 to d less 1); NONE. BAD;")
    private static void planOf0Or4DaysIsBad() {
        TowerBraid x = told("t1,1;s9;c9,1,0;");
        each("days", BAD, d -> x.plan(d, -1), 0, -1, 4, 5, MIN, MAX);
        each("days, first", BAD, d -> x.plan(d, 0), 0, -1, 4, 5, MIN, MAX);
        due("one", 0, x.plan(1, -1));
        due("three", 0, x.plan(3, -1));
    }

    @Says(of = 19, value = "PLAN: how much more all are WORN (k = -1), the set of the k-th DAY (0 to d less 1); NONE. BAD;")
    private static void planOfNoDayOfThemIsBad() {
        TowerBraid x = told("t1,1;s9;c9,1,0;");
        for (int days = 1; days <= 3; days++) {
            int d = days;
            each("day of " + d, BAD, k -> x.plan(d, k), -2, -3, d, d + 1, MIN, MAX);
            due("last of " + d, 1, x.plan(d, d - 1));
        }
    }

    @Says(of = 19, value = "PLAN: how much more all are WORN (k = -1), the set of the k-th DAY (0 to d less 1); NONE. BAD;")
    private static void planIsBadAheadOfNone() {
        TowerBraid x = told("t1,1;c9,1,0;");
        due("none", NONE, x.plan(1, 0));
        due("no such day", BAD, x.plan(1, 1));
        due("below", BAD, x.plan(1, -2));
        due("four", BAD, x.plan(4, 0));
    }

    @Says(of = 19, value = "STATE: no TOWER (ahead of BAD).")
    private static void planWithoutATowerIsState() {
        TowerBraid x = new TowerBraid();
        each("days", STATE, d -> x.plan(d, -1), 1, 3, 0, 4, MIN, MAX);
        each("day", STATE, k -> x.plan(1, k), 0, -2, 1, MIN, MAX);
    }

    // ---- Promise 20

    @Says(of = 20, value = "NEVER; NONE. STATE: no TOWER.")
    private static void neverWithoutATowerIsState() {
        TowerBraid x = new TowerBraid();
        due("no tower", STATE, x.never());
        fed(x, "t1,1!").tower();
        due("a fault", STATE, x.never());
        fed(x, "t1,1;").tower();
        due("nobody", NONE, x.never());
    }

    // ---- Promise 21

    @Says(of = 21, value = "NEEDED. BAD.")
    private static void neededByNobodyIsBad() {
        TowerBraid x = plaited("t1,1;s9;c1,1,0;c1,1,0;c1,1,0;c1,1,0;c1,1,0;", 1);
        each("climber", BAD, x::needed, NO_CLIMBERS);
        due("the last", 1, x.needed(4));
        each("climber of one", BAD, told("t1,1;s9;c1,1,0;")::needed, 1, 4, -1);
        each("climber of none", BAD, told("t1,1;s9;")::needed, 0, 4, -1);
        each("climber of no tower", BAD, new TowerBraid()::needed, 0, 4, -1);
    }

    // ---- Promise 22

    @Says(of = 22, value = "STRONGEST (what = 0), STOUTEST (1), how much one may weigh by that (2). BAD;")
    private static void strongestIsOneOfThree() {
        TowerBraid x = plaited("t1,1;s9;s30;", 1);
        due("strongest", 9, x.strongest(0));
        due("stoutest", 2, x.strongest(1));
        due("by that", 30, x.strongest(2));
        each("what", BAD, x::strongest, -1, 3, 4, MIN, MAX);
    }

    @Says(of = 22, value = "STATE: no TOWER (ahead of BAD).")
    private static void strongestWithoutATowerIsState() {
        TowerBraid x = new TowerBraid();
        each("what", STATE, x::strongest, 0, 1, 2, 3, -1, MIN, MAX);
    }

    @Says(of = 22, value = "STRONGEST (what = 0), STOUTEST (1), how much one may weigh by that (2).")
    private static void strongestOfNoStrands() {
        TowerBraid x = told("t1,1;c1,1,0;");
        each("what", 0, x::strongest, 0, 1, 2);
    }

    // ---- Promise 23

    @Says(of = 23, value = "CUT by at most; NONE. STATE: no TOWER.")
    private static void cutMostWithoutATowerIsState() {
        TowerBraid x = new TowerBraid();
        due("no tower", STATE, x.cutMost());
        fed(x, "t1,1").tower();
        due("a fault", STATE, x.cutMost());
        fed(x, "t1,1;c1,1,0;").tower();
        due("nothing", 0, x.cutMost());
    }

    // ---- Promise 24

    @Says(of = 24, value = "COMES. BAD.")
    private static void comes0Or21TimesIsBad() {
        TowerBraid x = told("t1,1;c1,1,0;");
        each("times", BAD, n -> x.comes(0, n), 0, -1, 21, 22, MIN, MAX);
        due("once", 0, x.comes(0, 1));
        due("twenty times", 19, x.comes(0, 20));
    }

    @Says(of = 24, value = "COMES. BAD.")
    private static void nobodyComes() {
        TowerBraid x = told("t1,1;c1,1,0;c1,1,0;c1,1,0;c1,1,0;c1,9,8;");
        each("climber", BAD, c -> x.comes(c, 1), NO_CLIMBERS);
        due("the last", 8, x.comes(4, 1));
        each("climber of one", BAD, c -> told("t1,1;c1,1,0;").comes(c, 1), 1, 4, -1);
        each("climber of none", BAD, c -> told("t1,1;").comes(c, 1), 0, 4, -1);
        each("climber of no tower", BAD, c -> new TowerBraid().comes(c, 1), 0, 4, -1);
    }

    // ---- Promise 25

    @Says(of = 25, value = "CLIMBED. BAD;")
    private static void climbedBy100IsBad() {
        TowerBraid x = plaited("t1,1;s9;c9,1,0;", 1);
        each("strain", BAD, x::climbed, -1, -99, 100, 101, MIN, MAX);
        each("strain", 0, x::climbed, 0, 99);
        due("9", 1, x.climbed(9));
    }

    @Says(of = 25, value = "STATE: no TOWER (ahead of BAD).")
    private static void climbedWithoutATowerIsState() {
        TowerBraid x = new TowerBraid();
        each("strain", STATE, x::climbed, 0, 99, -1, 100, MIN, MAX);
    }

    // ---- Promise 26

    /** Row 0 of 20: ten times 7, 14; row 1 is missing. */
    private static TowerBraid strained() {
        TowerBraid x = told(SIX_SILKS + "c40,1,0;c9,1,0;");
        x.row(0, 2, 20);
        for (int i = 0; i < 20; i++) {
            x.set(0, i, i % 2 == 0 ? 7 : 14);
        }
        return x;
    }

    @Says(of = 26, value = "CLIMBERS by n STRAINS (1 to 8), two ITEMS each, of a ROW from i on. BAD: ROW, n;")
    private static void climbersBy1To8Strains() {
        TowerBraid x = strained();
        for (int n = 1; n <= 8; n++) {
            due("by " + n, 1, x.climbers(0, 4, n));
        }
        x.set(0, 19, 3);
        due("the eighth is another's", 0, x.climbers(0, 4, 8));
        due("seven are not", 1, x.climbers(0, 4, 7));
        due("the eighth is the other's alone", 2, x.climbers(0, 18, 1));
    }

    @Says(of = 26, value = "CLIMBERS by n STRAINS (1 to 8), two ITEMS each, of a ROW from i on. BAD: ROW, n;")
    private static void climbersBy0Or9StrainsIsBad() {
        TowerBraid x = strained();
        each("n", BAD, n -> x.climbers(0, 0, n), 0, -1, -8, 9, 10, 1 << 30, 1 << 31, MAX);
    }

    @Says(of = 26, value = "BAD: ROW, n;")
    private static void climbersOfNoRowIsBad() {
        TowerBraid x = strained();
        each("row", BAD, row -> x.climbers(row, 0, 1), -1, 8, 9, MIN, MAX);
    }

    @Says(of = 26, value = "STATE: no TOWER (ahead of BAD)")
    private static void climbersWithoutATowerIsState() {
        TowerBraid x = new TowerBraid();
        x.row(0, 0, 4);
        each("row", STATE, row -> x.climbers(row, 0, 1), 0, 1, -1, 8, MIN, MAX);
        each("n", STATE, n -> x.climbers(0, 0, n), 1, 0, 9, MIN, MAX);
        each("place", STATE, i -> x.climbers(0, i, 1), 0, -1, 4, MIN, MAX);
    }

    @Says(of = 26, value = "NULL; PLACE; then BAD")
    private static void climbersOfAMissingRowIsNull() {
        TowerBraid x = strained();
        due("missing", NULL, x.climbers(1, 0, 1));
        each("place of a missing one", NULL, i -> x.climbers(1, i, 1), -1, 40, MIN, MAX);
        each("bad ahead of it, n", BAD, n -> x.climbers(1, 0, n), 0, 9);
        x.drop(0);
        due("dropped", NULL, x.climbers(0, 0, 1));
    }

    @Says(of = 26, value = "NULL; PLACE; then BAD")
    private static void climbersBeyondAnEndIsAPlace() {
        TowerBraid x = strained();
        due("up to the end", 1, x.climbers(0, 18, 1));
        due("eight up to the end", 1, x.climbers(0, 4, 8));
        each("one from", PLACE, i -> x.climbers(0, i, 1), -1, -2, 19, 20, 21, MIN, MAX, MAX - 1);
        each("eight from", PLACE, i -> x.climbers(0, i, 8), -1, 5, 6, 20, MIN, MAX, MAX - 15);
        x.row(2, 0, 1);
        due("half of one", PLACE, x.climbers(2, 0, 1));
        x.row(2, 0, 0);
        due("none at all", PLACE, x.climbers(2, 0, 1));
    }

    @Says(of = 26, value = "NULL; PLACE; then BAD")
    private static void climbersBeyondAnEndIsAPlaceAheadOfBad() {
        TowerBraid x = strained();
        x.set(0, 18, 0);
        due("no set in it", BAD, x.climbers(0, 16, 2));
        due("no set, and beyond", PLACE, x.climbers(0, 16, 3));
    }

    @Says(of = 26, value = "then BAD: no set of STRANDS (0, too)")
    private static void climbersByNoSetIsBad() {
        TowerBraid x = strained();
        each("set", BAD, set -> x.set(0, 0, set) == set ? x.climbers(0, 0, 1) : 1, 0, -1, 64, 65, 71, MIN, MAX);
        x.set(0, 0, 63);
        due("all six", 0, x.climbers(0, 0, 1));
        x.set(0, 1, 7);
        due("7 by all six", 1, x.climbers(0, 0, 1));
        x.set(0, 6, 64);
        due("the fourth is none", BAD, x.climbers(0, 0, 4));
        due("three are", 1, x.climbers(0, 0, 3));
        x.set(0, 6, 0);
        due("the last of four is 0", BAD, x.climbers(0, 0, 4));
    }

    @Says(of = 26, value = "then BAD: no set of STRANDS (0, too)")
    private static void climbersByStrandsThatThereAreNot() {
        TowerBraid x = told("t1,1;s9;s9;c9,1,0;");
        x.row(0, 0, 2);
        x.set(0, 1, 5);
        each("set of two", BAD, set -> x.set(0, 0, set) == set ? x.climbers(0, 0, 1) : 1, 0, 4, 5, 63, -1, -4);
        each("set of two", 1, set -> x.set(0, 0, set) == set ? x.climbers(0, 0, 1) : BAD, 3);
        TowerBraid y = told("t1,1;c9,1,0;");
        y.row(0, 0, 2);
        each("set of none", BAD, set -> y.set(0, 0, set) == set ? y.climbers(0, 0, 1) : 1, 0, 1, -1);
    }

    @Says(of = 26, value = "a STRAIN not 0 to 99.")
    private static void climbersByNoStrainIsBad() {
        TowerBraid x = strained();
        each("strain", BAD, v -> x.set(0, 1, v) == v ? x.climbers(0, 0, 1) : 1, -1, -14, 100, 101, 256, MIN, MAX);
        each("strain", 0, v -> x.set(0, 1, v) == v ? x.climbers(0, 0, 1) : BAD, 0, 1, 98, 99);
        x.set(0, 1, 14);
        x.set(0, 15, 100);
        due("the eighth is none", BAD, x.climbers(0, 0, 8));
        due("seven are", 1, x.climbers(0, 0, 7));
        x.set(0, 1, 99);
        due("the eighth is none, and nobody makes the first", BAD, x.climbers(0, 0, 8));
    }

    // ---- Promise 27

    @Says(of = 27, value = "STORM (c 0 to 10): above (what = 0), below (1). BAD.")
    private static void stormBelow0OrAbove10IsBad() {
        TowerBraid x = plaited("t1,1;s9;c9,1,0;", 1);
        each("c", BAD, c -> x.storm(0, c, 0), -1, -10, 11, 12, MIN, MAX);
        each("c, below", BAD, c -> x.storm(0, c, 1), -1, -10, 11, 12, MIN, MAX);
        fraction(x, 0, 0, 1, 1);
        fraction(x, 0, 10, 0, 1);
        fraction(x, 0, 1, 9, 10);
    }

    @Says(of = 27, value = "STORM (c 0 to 10): above (what = 0), below (1). BAD.")
    private static void stormIsAboveOrBelow() {
        TowerBraid x = plaited("t1,1;s9;c9,1,0;", 1);
        each("what", BAD, what -> x.storm(0, 3, what), -1, 2, 3, MIN, MAX);
        due("above", 7, x.storm(0, 3, 0));
        due("below", 10, x.storm(0, 3, 1));
    }

    @Says(of = 27, value = "BAD.")
    private static void stormOfNobodyIsBad() {
        TowerBraid x = plaited("t1,1;s9;c1,1,0;c1,1,0;c1,1,0;c1,1,0;c1,1,0;", 1);
        each("climber", BAD, c -> x.storm(c, 1, 0), NO_CLIMBERS);
        fraction(x, 4, 1, 9, 10);
        each("climber of one", BAD, c -> told("t1,1;c1,1,0;").storm(c, 1, 0), 1, 4, -1);
        each("climber of none", BAD, c -> told("t1,1;").storm(c, 1, 0), 0, 4, -1);
        each("climber of no tower", BAD, c -> new TowerBraid().storm(c, 1, 0), 0, 4, -1);
    }

    // ---- Promise 28

    @Says(of = 28, value = "An IMAGE (0, 1) is kept of the TOWER: 1. BAD;")
    private static void thereAreTwoImages() {
        TowerBraid x = told("t1,1;s9;s9;");
        x.plait(1);
        due("image 0", 1, x.image(0));
        x.plait(2);
        due("image 1", 1, x.image(1));
        x.plait(3);
        due("restore 0", 1, x.restore(0));
        due("plait of image 0", 1, x.count(7));
        due("restore 1", 1, x.restore(1));
        due("plait of image 1", 2, x.count(7));
        each("image", BAD, x::image, -1, 2, 3, MIN, MAX);
    }

    @Says(of = 28, value = "An IMAGE (0, 1) is kept of the TOWER: 1.")
    private static void anImageStandsInPlaceOfTheOneBefore() {
        TowerBraid x = told("t1,1;s9;s9;");
        x.plait(1);
        x.image(0);
        x.plait(2);
        x.image(0);
        x.plait(3);
        x.restore(0);
        due("the later one", 2, x.count(7));
        due("the other was not kept", STATE, x.restore(1));
    }

    @Says(of = 28, value = "An IMAGE (0, 1) is kept of the TOWER: 1.")
    private static void anImageStaysAsItWasKept() {
        TowerBraid x = plaited("t1,5;h50;s5;c40,1,0;c60,1,0;", 3);
        x.image(0);
        x.climb(0);
        x.climb(1);
        x.day();
        x.cut(3);
        x.peg(1);
        x.undo();
        x.restore(0);
        due("plait", 3, x.count(7));
        due("day", 0, x.count(3));
        due("long", 5, x.count(5));
        due("peg", 0, x.count(6));
        due("worn", 0, x.strand(0, 1));
        due("gone", 0, x.strand(1, 2));
        due("fell", 0, x.climber(1, 3));
    }

    @Says(of = 28, value = "STATE: no TOWER.")
    private static void anImageOfNoTowerIsState() {
        TowerBraid x = new TowerBraid();
        each("image", STATE, x::image, 0, 1);
        each("bad is ahead of it, image", BAD, x::image, -1, 2, MIN, MAX);
        each("none was kept", STATE, x::restore, 0, 1);
    }

    // ---- Promise 29

    @Says(of = 29, value = "The TOWER is as an IMAGE kept it (no ACT can be undone then): 1. BAD;")
    private static void noActIsUndoneBehindARestore() {
        TowerBraid x = told("t1,1;s9;");
        x.image(1);
        x.day();
        x.plait(1);
        due("restore", 1, x.restore(1));
        due("acts", 0, x.count(8));
        due("undo", STATE, x.undo());
        due("day 0", 0, x.count(3));
        x.day();
        due("only those of its own", 0, x.undo());
        each("restore", BAD, x::restore, -1, 2, 3, MIN, MAX);
    }

    @Says(of = 29, value = "The TOWER is as an IMAGE kept it (no ACT can be undone then): 1.")
    private static void allIsAsAnImageKeptIt() {
        TowerBraid x = plaited("t2,5;h50;s5;c40,7,3;c60,1,0;", 3);
        x.climb(0);
        x.climb(1);
        x.day();
        x.peg(1);
        x.image(0);
        fed(x, "t9,9;s1;s1;s1;c1,1,0;").tower();
        x.plait(7);
        for (int times = 0; times < 3; times++) {
            due("restore", 1, x.restore(0));
            int[] counts = {0, 2, 2, 1, 2, 6, 1, 0, 0, 0};
            for (int what = 0; what < 10; what++) {
                due("count " + what, counts[what], x.count(what));
            }
            int[][] strands = {{50, 4, 1, 0}, {5, 0, 1, 0}};
            for (int s = 0; s < 2; s++) {
                for (int what = 0; what < 4; what++) {
                    due("strand " + s + ", " + what, strands[s][what], x.strand(s, what));
                }
                due("kind " + s, s + 1, x.kind(s));
            }
            int[][] climbers = {{40, 7, 3, 0, 0, 0}, {60, 1, 0, 1, 0, 0}};
            for (int c = 0; c < 2; c++) {
                for (int what = 0; what < 6; what++) {
                    due("climber " + c + ", " + what, climbers[c][what], x.climber(c, what));
                }
            }
            x.day();
            x.cut(3);
            x.peg(0);
        }
    }

    @Says(of = 29, value = "The TOWER is as an IMAGE kept it (no ACT can be undone then): 1.")
    private static void eachStrandAndClimberIsAsAnImageKeptIt() {
        TowerBraid x = told("t2,5;h91;s12;g93;r14;w95;r16;c20,9,1;c30,8,2;c50,7,3;c60,6,4;c97,5,3;");
        int[][] acts = {{1, 3}, {2, 1}, {4, 2}, {8, 4}, {16, 4}, {48, 0}, {48, 0}};
        for (int[] act : acts) {
            x.plait(act[0]);
            x.climb(act[1]);
        }
        x.day();
        x.day();
        x.cut(1);
        x.peg(1);
        x.image(1);
        fed(x, "t9,9;s1;s1;s1;s1;s1;s1;c1,1,0;c1,1,0;c1,1,0;c1,1,0;c1,1,0;").tower();
        due("restore", 1, x.restore(1));
        int[] counts = {0, 6, 5, 2, 2, 6, 1, 48, 0, 0};
        for (int what = 0; what < 10; what++) {
            due("count " + what, counts[what], x.count(what));
        }
        int[] kinds = {1, 2, 3, 4, 5, 4};
        int[][] strands = {{91, 6, 0, 0}, {12, 0, 1, 0}, {93, 10, 0, 0}, {14, 0, 1, 0}, {95, 7, 0, 1}, {16, 2, 0, 1}};
        for (int s = 0; s < 6; s++) {
            for (int what = 0; what < 4; what++) {
                due("strand " + s + ", " + what, strands[s][what], x.strand(s, what));
            }
            due("kind " + s, kinds[s], x.kind(s));
        }
        int[][] climbers = {{20, 9, 1, 0, 1, 5}, {30, 8, 2, 1, 1, 8}, {50, 7, 3, 0, 1, 13}, {60, 6, 4, 0, 0, 15}, {97, 5, 3, 1, 0, 25}};
        for (int c = 0; c < 5; c++) {
            for (int what = 0; what < 6; what++) {
                due("climber " + c + ", " + what, climbers[c][what], x.climber(c, what));
            }
        }
    }

    @Says(of = 29, value = "BAD; STATE: none was kept.")
    private static void restoreOfNoneIsState() {
        TowerBraid x = told("t1,1;");
        each("none was kept", STATE, x::restore, 0, 1);
        each("bad is ahead of it, restore", BAD, x::restore, -1, 2, MIN, MAX);
        x.day();
        x.image(1);
        due("the other yet", STATE, x.restore(0));
        due("acts stay", 1, x.count(8));
        due("day stays", 1, x.count(3));
    }

    @Says(of = 29, value = "The TOWER is as an IMAGE kept it")
    private static void rowsAndTapeStayBehindARestore() {
        TowerBraid x = told("t1,1;");
        x.image(0);
        x.row(0, 0, 3);
        x.feed('t');
        x.restore(0);
        due("rows", 1, x.count(0));
        due("bytes", 1, x.count(9));
    }
}
