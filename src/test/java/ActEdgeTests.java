/** The sentences about THE PLAIT and ACTS that name an edge, each by a test of its own. */
final class ActEdgeTests extends Edges {
    private static final int[] NO_CLIMBERS = {-1, 5, 6, 99, MIN, MAX};

    private ActEdgeTests() {
    }

    public static void main(String[] args) throws IllegalAccessException {
        run(ActEdgeTests.class, args);
    }

    /** Two silks, a hair that is GONE, and one who weighs 9. */
    private static TowerBraid oneGone() {
        TowerBraid x = plaited("t1,5;s99;s99;h1;c9,1,0;", 4);
        due("the hair breaks", 1, x.climb(0));
        return x;
    }

    private static void worn(String when, TowerBraid x, int... worn) {
        for (int s = 0; s < worn.length; s++) {
            due("worn, " + when + ", " + s, worn[s], x.strand(s, 1));
        }
    }

    // ---- Terms: pull, share, holding

    @Says("2 THE PLAIT: a set of STRANDS (bits) that are not GONE.")
    private static void thePlaitIsASetOfThoseThatAreNotGone() {
        TowerBraid x = oneGone();
        due("none is left of it", 0, x.count(7));
        due("both others", 2, x.plait(3));
        due("the plait", 3, x.count(7));
        due("not it", STATE, x.plait(7));
        due("the plait yet", 3, x.count(7));
        x.undo();
        x.undo();
        due("it was in the plait", 4, x.count(7));
        due("all of them", 3, x.plait(7));
    }

    @Says("All that is divided is cut towards 0 but where told")
    private static void whatIsDividedIsCut() {
        TowerBraid x = plaited("t1,1;h99;g99;w99;c57,1,0;", 7);
        due("by 19 each", 0, x.climb(0));
        worn("by 1.9, twice that, 1 and 0.95", x, 1, 2, 1);
    }

    @Says("with a PEG by half of that (cut up)")
    private static void halfIsCutUp() {
        TowerBraid x = plaited("t1,1;s99;c1,1,0;c2,1,0;c39,1,0;c40,1,0;c99,1,0;", 1);
        int[] whole = {1, 2, 39, 40, 99};
        int[] half = {1, 1, 20, 20, 50};
        for (int c = 0; c < 5; c++) {
            due("without a peg, " + c, whole[c], x.climber(c, 5));
        }
        x.peg(1);
        for (int c = 0; c < 5; c++) {
            due("with a peg, " + c, half[c], x.climber(c, 5));
        }
        x.peg(0);
        for (int c = 0; c < 5; c++) {
            due("without it again, " + c, whole[c], x.climber(c, 5));
        }
    }

    @Says("each STRAND of the PLAIT has a SHARE: that by how many they are (cut up).")
    private static void aShareIsCutUp() {
        TowerBraid x = plaited("t1,1;s99;s99;s99;s99;s99;s99;c1,1,0;c39,1,0;c40,1,0;c41,1,0;c99,1,0;", 7);
        int[] byThree = {1, 13, 14, 14, 33};
        int[] bySix = {1, 7, 7, 7, 17};
        for (int c = 0; c < 5; c++) {
            due("by three, " + c, byThree[c], x.climber(c, 5));
        }
        x.plait(63);
        for (int c = 0; c < 5; c++) {
            due("by six, " + c, bySix[c], x.climber(c, 5));
        }
    }

    @Says("each STRAND of the PLAIT has a SHARE: that by how many they are (cut up).")
    private static void aShareOfHalfIsCutUpTwice() {
        TowerBraid x = plaited("t1,1;s99;s99;s99;c37,1,0;c36,1,0;c1,1,0;", 7);
        x.peg(1);
        due("19 by three", 7, x.climber(0, 5));
        due("18 by three", 6, x.climber(1, 5));
        due("1 by three", 1, x.climber(2, 5));
    }

    @Says("A STRAND HOLDS, if its SHARE is no more than BEARS less how much it is WORN")
    private static void aStrandHoldsJustWhatItBears() {
        for (String sort : new String[] {"h", "s", "g", "r"}) {
            TowerBraid x = plaited("t1,1;" + sort + "9;c9,1,0;c10,1,0;", 1);
            due(sort + " bears 9", 1, x.borne(0, 1));
            due(sort + " does not bear 10", 0, x.borne(1, 1));
            due(sort + " breaks by 10", 1, x.climb(1));
            x.undo();
            due(sort + " holds 9", 0, x.climb(0));
        }
    }

    @Says("A STRAND HOLDS, if its SHARE is no more than BEARS less how much it is WORN")
    private static void aStrandHoldsLessByHowMuchItIsWorn() {
        TowerBraid x = plaited("t1,1;r10;c10,1,0;c9,1,0;", 1);
        due("10 holds", 0, x.climb(0));
        worn("by one", x, 1);
        due("10 no more", 0, x.borne(0, 1));
        due("9 yet", 1, x.borne(1, 1));
        due("9 holds", 0, x.climb(1));
        due("9 no more", 0, x.borne(1, 1));
        due("9 breaks it", 1, x.climb(1));
    }

    @Says("A STRAND HOLDS, if its SHARE is no more than BEARS less how much it is WORN")
    private static void aStrandMayBeWornOutWhole() {
        TowerBraid x = plaited("t1,1;r1;c1,1,0;", 1);
        due("1 holds", 0, x.climb(0));
        worn("as much as it bears", x, 1);
        due("it is there yet", 1, x.strand(0, 3));
        due("nothing is borne", 0, x.borne(0, 1));
        due("it breaks", 1, x.climb(0));
    }

    @Says("a twine BEARS twice, if it is the only one.")
    private static void aTwineAloneBearsTwice() {
        TowerBraid x = plaited("t1,1;w10;s99;c20,1,0;c21,1,0;", 1);
        due("20 by it alone", 1, x.borne(0, 1));
        due("21 by it alone", 0, x.borne(1, 1));
        due("21 breaks it", 1, x.climb(1));
        x.undo();
        due("20 holds", 0, x.climb(0));
    }

    @Says("a twine BEARS twice, if it is the only one.")
    private static void aTwineInCompanyBearsOnce() {
        TowerBraid x = plaited("t1,1;w10;s99;c20,1,0;c21,1,0;", 3);
        due("10 each", 1, x.borne(0, 3));
        due("11 each", 0, x.borne(1, 3));
        due("the twine breaks", 1, x.climb(1));
        due("it is gone", 1, x.strand(0, 2));
    }

    @Says("a twine BEARS twice, if it is the only one.")
    private static void twoTwinesBearOnceEach() {
        TowerBraid x = plaited("t1,1;w10;w10;c20,1,0;c21,1,0;", 3);
        due("10 each", 1, x.borne(0, 3));
        due("11 each", 0, x.borne(1, 3));
        due("both break", 2, x.climb(1));
    }

    @Says("a twine BEARS twice, if it is the only one.")
    private static void theOnlyOneOfTheSetThatIsAskedAbout() {
        TowerBraid x = plaited("t1,1;w10;s99;c20,1,0;c21,1,0;", 3);
        due("alone, though two are plaited", 1, x.borne(0, 1));
        x.plait(1);
        due("in company, though it is plaited alone", 0, x.borne(1, 3));
    }

    @Says("a twine BEARS twice, if it is the only one.")
    private static void aTwineIsWornOnceOfTwice() {
        TowerBraid x = plaited("t1,1;w10;c20,1,0;c18,1,0;c19,1,0;", 1);
        x.climb(0);
        worn("by 1 and a twentieth of 20", x, 2);
        due("18 of 20", 1, x.borne(1, 1));
        due("19 of 20", 0, x.borne(2, 1));
        due("it bears as told", 10, x.strand(0, 0));
    }

    @Says("a twine BEARS twice, if it is the only one.")
    private static void otherKindsBearOnceAlone() {
        for (String sort : new String[] {"h", "s", "g", "r"}) {
            due(sort + " alone", 0, told("t1,1;" + sort + "10;c11,1,0;").borne(0, 1));
        }
    }

    // ---- Terms: one climbs

    @Says("One CLIMBS (LONG is HIGH or more; the PLAIT is not empty)")
    private static void longIsHighOrMore() {
        due("just so long", 0, plaited("t5,5;s9;c9,1,0;", 1).climb(0));
        due("longer", 0, plaited("t5,6;s9;c9,1,0;", 1).climb(0));
        due("one too short", STATE, plaited("t5,4;s9;c9,1,0;", 1).climb(0));
        TowerBraid x = plaited("t99,98;s9;c9,1,0;", 1);
        due("98 of 99", STATE, x.climb(0));
        x.day();
        due("99 of 99", 0, x.climb(0));
        x.cut(1);
        due("98 again", STATE, x.climb(0));
    }

    @Says("One CLIMBS (LONG is HIGH or more; the PLAIT is not empty)")
    private static void thePlaitIsNotEmpty() {
        TowerBraid x = told("t1,1;s9;c9,1,0;");
        due("never plaited", STATE, x.climb(0));
        x.plait(0);
        due("plaited by none", STATE, x.climb(0));
        due("nobody fell", 0, x.climber(0, 3));
        x.plait(1);
        due("plaited", 0, x.climb(0));
    }

    @Says("all that do not HOLD break at once (they are GONE, no longer in the PLAIT)")
    private static void allThatDoNotHoldBreakAtOnce() {
        // The twine is worn by 4: it bears 16 in company, 36 alone. 34 is too much for both, not for it alone.
        for (String strands : new String[] {"w20;r10;", "r10;w20;"}) {
            int twine = strands.startsWith("w") ? 1 : 2;
            TowerBraid x = plaited("t1,1;" + strands + "c30,1,0;c34,1,0;", twine);
            x.climb(0);
            x.climb(0);
            due("34 by the twine alone", 1, x.borne(1, twine));
            x.plait(3);
            due("both at once", 2, x.climb(1));
            due("fell", 1, x.climber(1, 3));
        }
    }

    @Says("all that do not HOLD break at once (they are GONE, no longer in the PLAIT)")
    private static void whatBreaksIsGoneAndNotInThePlait() {
        TowerBraid x = plaited("t1,1;h5;s50;h5;c60,1,0;c40,1,0;", 7);
        due("two break", 2, x.climb(1));
        due("the plait", 2, x.count(7));
        int[] gone = {1, 0, 1};
        for (int s = 0; s < 3; s++) {
            due("gone " + s, gone[s], x.strand(s, 2));
            due("plaited " + s, 1 - gone[s], x.strand(s, 3));
        }
        due("strands are counted yet", 3, x.count(1));
    }

    @Says("then those left that do not HOLD by their new SHARE, and so on")
    private static void strandsBreakByTheirNewShare() {
        // 99 by 6, 5, 4, 3, 2: 17, 20, 25, 33, 50; one less bears each.
        TowerBraid x = plaited("t1,1;s16;s19;s24;s32;s49;s99;c99,1,0;", 63);
        due("one by one", 5, x.climb(0));
        due("the last holds", 32, x.count(7));
        due("nobody fell", 0, x.climber(0, 3));
        TowerBraid y = plaited("t1,1;s16;s20;s25;s33;s50;s99;c99,1,0;", 63);
        due("only the first", 1, y.climb(0));
        due("five hold", 62, y.count(7));
    }

    @Says("then those left that do not HOLD by their new SHARE, and so on")
    private static void strandsBreakOnAnyDayOfAnyTower() {
        for (String law : new String[] {"t1,1;", "t6,6;", "t50,99;"}) {
            TowerBraid x = plaited(law + "s16;s19;s24;s32;s49;s99;c99,1,0;", 63);
            for (int day = 0; day < 12; day++) {
                due(law + " five break on day " + day, 5, x.climb(0));
                due(law + " the last holds on day " + day, 32, x.count(7));
                x.undo();
                x.day();
            }
        }
    }

    @Says("if none is left, the CLIMBER FELL")
    private static void ifNoneIsLeftTheClimberFell() {
        TowerBraid x = plaited("t1,1;s16;s19;s24;s32;s49;s98;c99,1,0;c9,1,0;", 63);
        due("all break", 6, x.climb(0));
        due("fell", 1, x.climber(0, 3));
        due("not another", 0, x.climber(1, 3));
        due("the plait is empty", 0, x.count(7));
        worn("none", x, 0, 0, 0, 0, 0, 0);
    }

    @Says("if none is left, the CLIMBER FELL")
    private static void howOftenOneFell() {
        TowerBraid x = plaited("t1,1;s1;s1;s1;c9,1,0;c8,1,0;", 1);
        for (int s = 0; s < 3; s++) {
            x.plait(1 << s);
            due("it breaks", 1, x.climb(s == 1 ? 1 : 0));
        }
        due("twice", 2, x.climber(0, 3));
        due("once", 1, x.climber(1, 3));
    }

    @Says("if none is left, the CLIMBER FELL")
    private static void whoIsLeftAStrandDidNotFall() {
        TowerBraid x = plaited("t1,1;s1;s9;c9,1,0;", 3);
        due("one breaks", 1, x.climb(0));
        due("not fallen", 0, x.climber(0, 3));
    }

    @Says("else each of the PLAIT is WORN more by its last SHARE")
    private static void strandsAreWornByTheirLastShare() {
        TowerBraid x = plaited("t1,1;h50;s5;c40,1,0;", 3);
        due("the silk breaks by 20", 1, x.climb(0));
        worn("by a tenth of 40", x, 4, 0);
        TowerBraid y = plaited("t1,1;h50;h50;g50;w50;c40,1,0;", 15);
        due("all hold by 10", 0, y.climb(0));
        worn("by 10", y, 1, 1, 2, 1);
    }

    @Says("else each of the PLAIT is WORN more by its last SHARE")
    private static void onlyThosePlaitedAreWorn() {
        TowerBraid x = plaited("t1,1;h50;h50;h5;r50;c40,1,0;", 5);
        due("the weak hair breaks", 1, x.climb(0));
        worn("once", x, 4, 0, 0, 0);
        due("again", 0, x.climb(0));
        worn("more", x, 8, 0, 0, 0);
    }

    private static void wornBy(String sort, int weight, int worn) {
        TowerBraid x = plaited("t1,1;" + sort + "99;c" + weight + ",1,0;", 1);
        due(sort + " holds " + weight, 0, x.climb(0));
        due(sort + " is worn by " + weight, worn, x.strand(0, 1));
    }

    @Says("hair by a tenth of it (cut)")
    private static void hairIsWornByATenth() {
        int[] weights = {1, 9, 10, 11, 19, 20, 89, 90, 99};
        int[] worn = {0, 0, 1, 1, 1, 2, 8, 9, 9};
        for (int i = 0; i < weights.length; i++) {
            wornBy("h", weights[i], worn[i]);
        }
    }

    @Says("silk by nothing")
    private static void silkIsWornByNothing() {
        for (int weight : new int[] {1, 10, 20, 99}) {
            wornBy("s", weight, 0);
        }
    }

    @Says("grey hair by twice that of hair")
    private static void greyHairIsWornByTwiceThatOfHair() {
        int[] weights = {1, 5, 9, 10, 15, 19, 20, 99};
        int[] worn = {0, 0, 0, 2, 2, 2, 4, 18};
        for (int i = 0; i < weights.length; i++) {
            wornBy("g", weights[i], worn[i]);
        }
    }

    @Says("a rope by 1")
    private static void aRopeIsWornBy1() {
        for (int weight : new int[] {1, 9, 10, 20, 99}) {
            wornBy("r", weight, 1);
        }
    }

    @Says("a twine by 1 and a twentieth of it (cut).")
    private static void aTwineIsWornBy1AndATwentieth() {
        int[] weights = {1, 10, 19, 20, 21, 39, 40, 99};
        int[] worn = {1, 1, 1, 2, 2, 2, 3, 5};
        for (int i = 0; i < weights.length; i++) {
            wornBy("w", weights[i], worn[i]);
        }
    }

    @Says("THE STRAIN is the first SHARE (0 by an empty PLAIT).")
    private static void theStrainIsTheFirstShare() {
        TowerBraid x = plaited("t1,1;s1;s2;s99;c40,1,0;", 7);
        due("though two break by it", 14, x.climber(0, 5));
        due("two", 2, x.climb(0));
        due("by the one left", 40, x.climber(0, 5));
    }

    @Says("THE STRAIN is the first SHARE (0 by an empty PLAIT).")
    private static void theStrainByAnEmptyPlaitIs0() {
        TowerBraid x = told("t1,1;s9;c40,1,0;");
        due("never plaited", 0, x.climber(0, 5));
        x.plait(1);
        due("plaited", 40, x.climber(0, 5));
        x.climb(0);
        due("broken", 0, x.climber(0, 5));
        x.peg(1);
        due("with a peg", 0, x.climber(0, 5));
    }

    // ---- Terms: days, cuts

    @Says("A DAY goes by: LONG is 1 more (99 at most).")
    private static void longIs99AtMost() {
        TowerBraid x = told("t1,97;");
        int[] lengths = {98, 99, 99, 99};
        for (int d = 0; d < 4; d++) {
            due("day", d + 1, x.day());
            due("long on day " + (d + 1), lengths[d], x.count(5));
        }
        due("cut", 98, x.cut(1));
        x.day();
        due("long again", 99, x.count(5));
    }

    @Says("A DAY goes by: LONG is 1 more (99 at most).")
    private static void aBraidThatIsCutWholeGrowsAgain() {
        TowerBraid x = told("t1,3;");
        due("all of it", 0, x.cut(3));
        x.day();
        due("long", 1, x.count(5));
    }

    @Says("A CLIMBER is DUE on a DAY, if EVERY leaves OFF of it.")
    private static void aClimberIsDueIfEveryLeavesOff() {
        for (int every = 1; every <= 9; every++) {
            for (int off = 0; off < every; off += Math.max(1, every - 1)) {
                TowerBraid x = told("t1,1;c1," + every + "," + off + ";");
                for (int d = 0; d < 20; d++) {
                    due(every + ", " + off + ", in " + d, d % every == off ? 1 : 0, x.due(d));
                }
            }
        }
    }

    @Says("The braid is CUT by some: LONG is so much less (0 at least left).")
    private static void nothingMayBeLeft() {
        due("1 of 1", 0, told("t1,1;").cut(1));
        due("99 of 99", 0, told("t1,99;").cut(99));
        TowerBraid x = told("t1,9;");
        due("all but one", 1, x.cut(8));
        due("one too much", STATE, x.cut(2));
        due("one is left yet", 1, x.count(5));
        due("the last", 0, x.cut(1));
        due("none is left to be cut", STATE, x.cut(1));
    }

    // ---- Terms: acts

    @Says("ACTS (24 at most are kept, of more the oldest is forgotten;")
    private static void actsAre24AtMost() {
        TowerBraid x = told("t1,1;");
        for (int i = 1; i <= 30; i++) {
            x.day();
            due("acts behind " + i, Math.min(24, i), x.count(8));
        }
    }

    @Says("ACTS (24 at most are kept, of more the oldest is forgotten;")
    private static void of24NoneIsForgotten() {
        TowerBraid x = told("t1,1;");
        for (int i = 0; i < 24; i++) {
            x.day();
        }
        for (int left = 23; left >= 0; left--) {
            due("undo", left, x.undo());
            due("day", left, x.count(3));
        }
        due("no more", STATE, x.undo());
        due("day 0", 0, x.count(3));
    }

    @Says("ACTS (24 at most are kept, of more the oldest is forgotten;")
    private static void of25TheOldestIsForgotten() {
        TowerBraid x = told("t1,1;h1;");
        x.plait(1);
        for (int i = 0; i < 24; i++) {
            x.day();
        }
        for (int left = 23; left >= 0; left--) {
            due("undo", left, x.undo());
        }
        due("no more", STATE, x.undo());
        due("day 0", 0, x.count(3));
        due("the plait stays", 1, x.count(7));
    }

    @Says("ACTS (24 at most are kept, of more the oldest is forgotten;")
    private static void theLatest24AreUndoneHoweverManyThereWere() {
        for (int acts = 24; acts <= 80; acts++) {
            TowerBraid x = told("t1,1;");
            for (int i = 0; i < acts; i++) {
                x.day();
            }
            for (int left = 23; left >= 0; left--) {
                due("undo of " + acts, left, x.undo());
                due("day, of " + acts, acts - 24 + left, x.count(3));
            }
            due("no more of " + acts, STATE, x.undo());
        }
    }

    @Says("ACTS (24 at most are kept, of more the oldest is forgotten;")
    private static void actsAreKeptAnewBehindThoseUndone() {
        TowerBraid x = told("t1,50;");
        for (int i = 0; i < 30; i++) {
            x.day();
        }
        for (int i = 0; i < 10; i++) {
            x.undo();
        }
        due("day", 20, x.count(3));
        due("acts", 14, x.count(8));
        for (int i = 0; i < 12; i++) {
            x.cut(1);
        }
        due("24 again", 24, x.count(8));
        for (int left = 23; left >= 12; left--) {
            due("undo of a cut", left, x.undo());
            due("long", 82 - left, x.count(5));
        }
        for (int left = 11; left >= 0; left--) {
            due("undo of a day", left, x.undo());
            due("day", left + 8, x.count(3));
        }
        due("no more", STATE, x.undo());
    }

    @Says("each can be undone, the latest first;")
    private static void aPlaitIsUndone() {
        TowerBraid x = plaited("t1,1;s9;s9;", 3);
        x.plait(1);
        x.undo();
        due("plait", 3, x.count(7));
        x.undo();
        due("none", 0, x.count(7));
    }

    @Says("each can be undone, the latest first;")
    private static void aClimbIsUndone() {
        TowerBraid x = plaited("t1,1;h50;h5;c40,1,0;c60,1,0;", 3);
        x.climb(0);
        x.climb(1);
        due("fell", 1, x.climber(1, 3));
        due("undo", 2, x.undo());
        due("fell", 0, x.climber(1, 3));
        due("one is there", 1, x.count(7));
        due("the other is gone", 1, x.strand(1, 2));
        worn("once", x, 4, 0);
        due("undo", 1, x.undo());
        due("both are there", 3, x.count(7));
        due("none is gone", 0, x.strand(1, 2));
        worn("never", x, 0, 0);
    }

    @Says("each can be undone, the latest first;")
    private static void theWearOfEachStrandIsUndone() {
        TowerBraid x = told("t1,1;r9;r9;r9;r9;r9;r9;c1,1,0;");
        int[] worn = new int[6];
        for (int s = 0; s < 6; s++) {
            x.plait(1 << s);
            for (int times = 0; times <= s; times++) {
                x.climb(0);
                worn[s]++;
                worn("behind a climb", x, worn);
            }
            x.climb(0);
            x.undo();
            worn("undone", x, worn);
        }
    }

    @Says("each can be undone, the latest first;")
    private static void theFallOfEachClimberByEachStrandIsUndone() {
        TowerBraid x = told("t1,1;s1;s1;s1;s1;s1;s1;c9,1,0;c9,1,0;c9,1,0;c9,1,0;c9,1,0;");
        for (int s = 0; s < 6; s++) {
            for (int c = 0; c < 5; c++) {
                x.plait(1 << s);
                x.climb(c);
                due("fell, " + c, 1, x.climber(c, 3));
                due("gone, " + s, 1, x.strand(s, 2));
                x.undo();
                due("not fallen, " + c, 0, x.climber(c, 3));
                due("not gone, " + s, 0, x.strand(s, 2));
                due("plaited again", 1 << s, x.count(7));
            }
        }
    }

    @Says("each can be undone, the latest first;")
    private static void aDayIsUndone() {
        TowerBraid x = told("t1,98;");
        x.day();
        x.day();
        due("undo", 1, x.undo());
        due("day", 1, x.count(3));
        due("99 as it was", 99, x.count(5));
        due("undo", 0, x.undo());
        due("day", 0, x.count(3));
        due("98", 98, x.count(5));
    }

    @Says("each can be undone, the latest first;")
    private static void aCutIsUndone() {
        TowerBraid x = told("t1,9;");
        x.cut(9);
        due("undo", 0, x.undo());
        due("long", 9, x.count(5));
    }

    @Says("each can be undone, the latest first;")
    private static void aPegIsUndone() {
        TowerBraid x = told("t1,9;");
        x.peg(1);
        x.peg(0);
        due("undo", 1, x.undo());
        due("there", 1, x.count(6));
        due("undo", 0, x.undo());
        due("gone", 0, x.count(6));
    }

    @Says("each can be undone, the latest first;")
    private static void theLatestIsUndoneFirst() {
        TowerBraid x = told("t1,9;s9;c9,1,0;");
        x.day();
        x.cut(2);
        x.plait(1);
        x.peg(1);
        x.undo();
        due("no peg", 0, x.count(6));
        due("plaited yet", 1, x.count(7));
        x.undo();
        due("not plaited", 0, x.count(7));
        due("cut yet", 8, x.count(5));
        x.undo();
        due("not cut", 10, x.count(5));
        due("day 1 yet", 1, x.count(3));
        x.undo();
        due("day 0", 0, x.count(3));
        due("long", 9, x.count(5));
    }

    @Says("also such by which nothing becomes another)")
    private static void aPlaitAsItWasIsAnAct() {
        TowerBraid x = told("t1,1;s9;");
        due("none", 0, x.plait(0));
        due("none again", 0, x.plait(0));
        due("acts", 2, x.count(8));
        due("one", 1, x.plait(1));
        due("one again", 1, x.plait(1));
        due("acts", 4, x.count(8));
        due("undo", 3, x.undo());
        due("plaited yet", 1, x.count(7));
    }

    @Says("also such by which nothing becomes another)")
    private static void aClimbThatWearsNothingIsAnAct() {
        TowerBraid x = plaited("t1,1;s9;c9,1,0;", 1);
        due("nothing", 0, x.climb(0));
        due("nothing again", 0, x.climb(0));
        due("acts", 3, x.count(8));
        due("undo", 2, x.undo());
    }

    @Says("it is PLAITED, one CLIMBS, a DAY goes by, it is CUT, a PEG is there, or gone.")
    private static void eachOfTheseIsAnAct() {
        TowerBraid x = told("t1,9;s9;c9,1,0;");
        x.plait(1);
        due("plaited", 1, x.count(8));
        x.climb(0);
        due("climbs", 2, x.count(8));
        x.day();
        due("day", 3, x.count(8));
        x.cut(1);
        due("cut", 4, x.count(8));
        x.peg(1);
        due("peg", 5, x.count(8));
        x.peg(0);
        due("no peg", 6, x.count(8));
    }

    @Says("it is PLAITED, one CLIMBS, a DAY goes by, it is CUT, a PEG is there, or gone.")
    private static void nothingElseIsAnAct() {
        TowerBraid x = plaited("t1,9;s9;c9,1,0;", 1);
        x.image(0);
        x.row(0, 0, 4);
        x.set(0, 0, 1);
        x.set(0, 1, 9);
        x.copy(0, 0, 0, 2, 2);
        x.climbers(0, 0, 2);
        x.drop(0);
        x.feed('t');
        x.tower();
        x.ask(0, 0);
        x.as(0, 2);
        x.plan(3, -1);
        x.storm(0, 1, 0);
        due("acts", 1, x.count(8));
    }

    @Says("it is PLAITED, one CLIMBS, a DAY goes by, it is CUT, a PEG is there, or gone.")
    private static void whatIsRefusedIsNoAct() {
        TowerBraid x = told("t5,4;s9;h1;c9,1,0;");
        x.plait(4);
        x.plait(-1);
        x.climb(1);
        x.climb(0);
        x.cut(0);
        x.cut(5);
        x.peg(2);
        x.peg(0);
        x.undo();
        due("acts", 0, x.count(8));
        x.plait(2);
        x.day();
        x.climb(0);
        due("three", 3, x.count(8));
        due("one is gone", STATE, x.plait(2));
        due("three yet", 3, x.count(8));
    }

    // ---- Promise 9

    @Says(of = 9, value = "The PLAIT is a set: how many STRANDS.")
    private static void plaitTellsHowManyStrands() {
        for (int set = 0; set < 64; set++) {
            TowerBraid x = told("t1,1;s9;s9;s9;s9;s9;s9;");
            due("plait " + set, Integer.bitCount(set), x.plait(set));
            due("the plait", set, x.count(7));
        }
    }

    @Says(of = 9, value = "BAD: no set of STRANDS")
    private static void plaitOfNoSetIsBad() {
        String strands = "s9;s9;s9;s9;s9;s9;";
        for (int n = 0; n <= 6; n++) {
            TowerBraid x = told("t1,1;" + strands.substring(0, 3 * n));
            int all = (1 << n) - 1;
            due("all of " + n, n, x.plait(all));
            each("none of " + n + ", set", BAD, x::plait, all + 1, all + 2, 64, 128, -1, -all - 1, MIN, MAX);
            due("all yet", all, x.count(7));
        }
    }

    @Says(of = 9, value = "STATE: no TOWER (ahead of BAD)")
    private static void plaitWithoutATowerIsState() {
        TowerBraid x = new TowerBraid();
        each("set", STATE, x::plait, 0, 1, 63, 64, -1, MIN, MAX);
    }

    @Says(of = 9, value = "one of them is GONE.")
    private static void plaitWithOneThatIsGoneIsState() {
        TowerBraid x = oneGone();
        due("the others", 2, x.plait(3));
        each("set", STATE, x::plait, 4, 5, 6, 7);
        due("the others yet", 3, x.count(7));
        due("none", 0, x.plait(0));
    }

    @Says(of = 9, value = "one of them is GONE.")
    private static void badIsAheadOfOneThatIsGone() {
        TowerBraid x = oneGone();
        each("set", BAD, x::plait, 12, 15, 8, -4, -1, MIN + 4, MAX);
    }

    // ---- Promise 10

    @Says(of = 10, value = "A CLIMBER CLIMBS: how many STRANDS break.")
    private static void climbTellsHowManyBreak() {
        String strands = "s1;s1;s1;s1;s1;";
        for (int n = 0; n <= 5; n++) {
            TowerBraid x = plaited("t1,1;s99;" + strands.substring(0, 3 * n) + "c30,1,0;", (2 << n) - 1);
            due(n + " break", n, x.climb(0));
            due("one is left", 1, x.count(7));
        }
    }

    @Says(of = 10, value = "BAD; STATE: it is not LONG enough, the PLAIT is empty.")
    private static void climbOfNobodyIsBad() {
        TowerBraid x = plaited("t1,1;s99;c1,1,0;c1,1,0;c1,1,0;c1,1,0;c1,1,0;", 1);
        each("climber", BAD, x::climb, NO_CLIMBERS);
        due("the last", 0, x.climb(4));
        TowerBraid y = plaited("t1,1;s99;c1,1,0;", 1);
        each("climber of one", BAD, y::climb, 1, 2, 4, -1);
        TowerBraid z = plaited("t1,1;s99;", 1);
        each("climber of none", BAD, z::climb, 0, 1, -1);
        each("climber of no tower", BAD, new TowerBraid()::climb, 0, 4, -1, MIN, MAX);
    }

    @Says(of = 10, value = "BAD; STATE: it is not LONG enough, the PLAIT is empty.")
    private static void climbIsBadAheadOfState() {
        TowerBraid x = plaited("t5,4;s99;c1,1,0;", 1);
        each("too short, climber", BAD, x::climb, 1, -1, MIN, MAX);
        TowerBraid y = told("t5,5;s99;c1,1,0;");
        each("not plaited, climber", BAD, y::climb, 1, -1, MIN, MAX);
    }

    @Says(of = 10, value = "STATE: it is not LONG enough, the PLAIT is empty.")
    private static void climbThatIsRefusedChangesNothing() {
        TowerBraid x = plaited("t5,4;r1;c9,1,0;", 1);
        due("too short", STATE, x.climb(0));
        due("plaited yet", 1, x.count(7));
        due("not gone", 0, x.strand(0, 2));
        worn("not", x, 0);
        due("not fallen", 0, x.climber(0, 3));
    }

    // ---- Promise 11

    @Says(of = 11, value = "A DAY goes by: the DAY.")
    private static void dayTellsTheDay() {
        TowerBraid x = told("t1,1;");
        for (int d = 1; d <= 400; d++) {
            due("day", d, x.day());
        }
        due("the day", 400, x.count(3));
        due("long", 99, x.count(5));
    }

    @Says(of = 11, value = "STATE: no TOWER; FULL: it is DAY 999.")
    private static void noDayGoesByWithoutATower() {
        TowerBraid x = new TowerBraid();
        due("day", STATE, x.day());
        due("none", 0, x.count(3));
    }

    /** DAY 999 is farther than 512 calls lead: only of an object that goes on plainly it can be asked. */
    @Says(of = 11, value = "FULL: it is DAY 999.")
    private static void day999IsTheLast() {
        TowerBraid x = told("t1,1;");
        boolean goesOn = true;
        for (int d = 1; d <= 900; d++) {
            int day = x.day();
            goesOn = goesOn && day == d;
        }
        for (int d = 901; d <= 999 && goesOn; d++) {
            due("day", d, x.day());
        }
        if (goesOn) {
            due("no more", FULL, x.day());
            due("999 yet", 999, x.count(3));
            due("acts", 24, x.count(8));
            due("undone", 23, x.undo());
            due("999 again", 999, x.day());
        }
        due("a new one begins anew", 1, told("t1,1;").day());
    }

    // ---- Promise 12

    @Says(of = 12, value = "It is CUT by n (1 to 99): LONG.")
    private static void cutTellsHowLongItIs() {
        for (int n = 1; n <= 99; n++) {
            TowerBraid x = told("t1,99;");
            due("cut by " + n, 99 - n, x.cut(n));
            due("long", 99 - n, x.count(5));
        }
    }

    @Says(of = 12, value = "It is CUT by n (1 to 99): LONG. BAD;")
    private static void cutBy0OrBy100IsBad() {
        TowerBraid x = told("t1,99;");
        each("cut by", BAD, x::cut, 0, -1, -99, 100, 101, MIN, MAX);
        due("99 yet", 99, x.count(5));
    }

    @Says(of = 12, value = "STATE: no TOWER (ahead of BAD)")
    private static void cutWithoutATowerIsState() {
        TowerBraid x = new TowerBraid();
        each("cut by", STATE, x::cut, 1, 99, 0, -1, 100, MIN, MAX);
    }

    @Says(of = 12, value = "it is not so LONG.")
    private static void cutByMoreThanItIsLongIsState() {
        TowerBraid x = told("t1,9;");
        each("cut by", STATE, x::cut, 10, 11, 99);
        due("9 yet", 9, x.count(5));
        due("bad is ahead of it", BAD, x.cut(100));
        due("all", 0, x.cut(9));
        each("of nothing, cut by", STATE, x::cut, 1, 99);
    }

    // ---- Promise 13

    @Says(of = 13, value = "A PEG is there (1), or gone (0): 1.")
    private static void pegTells1BothTimes() {
        TowerBraid x = told("t1,1;");
        due("there", 1, x.peg(1));
        due("peg", 1, x.count(6));
        due("gone", 1, x.peg(0));
        due("no peg", 0, x.count(6));
    }

    @Says(of = 13, value = "BAD; STATE: no TOWER (ahead of BAD)")
    private static void pegOfNeitherIsBad() {
        TowerBraid x = told("t1,1;");
        each("peg", BAD, x::peg, -1, 2, 3, MIN, MAX);
        due("none", 0, x.count(6));
        x.peg(1);
        each("peg, while it is there", BAD, x::peg, -1, 2, 3, MIN, MAX);
        due("there", 1, x.count(6));
    }

    @Says(of = 13, value = "STATE: no TOWER (ahead of BAD)")
    private static void pegWithoutATowerIsState() {
        TowerBraid x = new TowerBraid();
        each("peg", STATE, x::peg, 0, 1, 2, -1, MIN, MAX);
    }

    @Says(of = 13, value = "it is so.")
    private static void pegThatIsSoIsState() {
        TowerBraid x = told("t1,1;");
        due("none is there", STATE, x.peg(0));
        x.peg(1);
        due("it is there", STATE, x.peg(1));
        x.peg(0);
        due("it is gone", STATE, x.peg(0));
        due("acts", 2, x.count(8));
    }

    // ---- Promise 14

    @Says(of = 14, value = "The latest ACT is undone: how many can be undone yet.")
    private static void undoTellsHowManyAreLeft() {
        TowerBraid x = told("t1,9;s9;c9,1,0;");
        x.plait(1);
        x.climb(0);
        x.day();
        x.cut(1);
        x.peg(1);
        x.peg(0);
        for (int left = 5; left >= 0; left--) {
            due("undo", left, x.undo());
            due("acts", left, x.count(8));
        }
    }

    @Says(of = 14, value = "STATE: none.")
    private static void undoOfNoneIsState() {
        due("no tower", STATE, new TowerBraid().undo());
        TowerBraid x = told("t1,9;");
        due("no act", STATE, x.undo());
        x.day();
        due("one", 0, x.undo());
        due("none left", STATE, x.undo());
        due("none left yet", STATE, x.undo());
        x.image(0);
        due("an image is none", STATE, x.undo());
    }

    // ---- Promise 15

    @Says(of = 15, value = "0 BEARS, 1 how much it is WORN, 2 whether it is GONE (1, 0), 3 whether it is in the PLAIT (1, 0).")
    private static void strandTellsFour() {
        TowerBraid x = plaited("t1,1;h50;s5;w7;c40,1,0;", 3);
        x.climb(0);
        int[][] told = {{50, 4, 0, 1}, {5, 0, 1, 0}, {7, 0, 0, 0}};
        for (int s = 0; s < 3; s++) {
            for (int what = 0; what < 4; what++) {
                due("strand " + s + ", " + what, told[s][what], x.strand(s, what));
            }
        }
    }

    @Says(of = 15, value = "BAD.")
    private static void noSuchStrandIsBad() {
        TowerBraid x = told("t1,1;s1;s1;s1;s1;s1;s1;c1,1,0;");
        for (int what = 0; what < 4; what++) {
            int w = what;
            each("what " + w + " of strand", BAD, s -> x.strand(s, w), -1, 6, 7, 64, MIN, MAX);
            each("what " + w + " of strand of two", BAD, s -> told("t1,1;s1;s1;").strand(s, w), -1, 2, 5);
            each("what " + w + " of strand of none", BAD, s -> told("t1,1;").strand(s, w), -1, 0, 5);
            each("what " + w + " of strand of no tower", BAD, s -> new TowerBraid().strand(s, w), -1, 0, 5);
        }
    }

    @Says(of = 15, value = "BAD.")
    private static void nothingElseOfAStrand() {
        TowerBraid x = told("t1,1;s1;");
        each("what", BAD, what -> x.strand(0, what), -1, 4, 5, MIN, MAX);
        each("what of no strand", BAD, what -> x.strand(1, what), -1, 4);
    }

    // ---- Promise 16

    @Says(of = 16, value = "0 WEIGHT, 1 EVERY, 2 OFF, 3 how often it FELL, 4 whether it would be BORNE by the PLAIT now (1, 0), 5 THE STRAIN by the PLAIT now (0: it is empty).")
    private static void climberTellsSix() {
        TowerBraid x = plaited("t1,1;s5;s30;c40,7,3;c30,9,8;", 1);
        x.climb(0);
        x.plait(2);
        int[][] told = {{40, 7, 3, 1, 0, 40}, {30, 9, 8, 0, 1, 30}};
        for (int c = 0; c < 2; c++) {
            for (int what = 0; what < 6; what++) {
                due("climber " + c + ", " + what, told[c][what], x.climber(c, what));
            }
        }
    }

    @Says(of = 16, value = "4 whether it would be BORNE by the PLAIT now (1, 0)")
    private static void nobodyIsBorneByAnEmptyPlait() {
        TowerBraid x = told("t9,1;s99;c1,1,0;");
        due("empty", 0, x.climber(0, 4));
        x.plait(1);
        due("plaited, though it is short", 1, x.climber(0, 4));
        x.cut(1);
        due("cut whole", 1, x.climber(0, 4));
        x.plait(0);
        due("empty again", 0, x.climber(0, 4));
    }

    @Says(of = 16, value = "4 whether it would be BORNE by the PLAIT now (1, 0)")
    private static void oneIsNotBorneIfAnyStrandBreaks() {
        TowerBraid x = plaited("t1,1;s20;s19;c40,1,0;c38,1,0;", 3);
        due("40", 0, x.climber(0, 4));
        due("38", 1, x.climber(1, 4));
        x.peg(1);
        due("40 with a peg", 1, x.climber(0, 4));
    }

    @Says(of = 16, value = "BAD.")
    private static void noSuchClimberIsBad() {
        TowerBraid x = plaited("t1,1;s1;c1,1,0;c1,1,0;c1,1,0;c1,1,0;c1,1,0;", 1);
        for (int what = 0; what < 6; what++) {
            int w = what;
            each("what " + w + " of climber", BAD, c -> x.climber(c, w), NO_CLIMBERS);
            each("what " + w + " of climber of one", BAD, c -> told("t1,1;c1,1,0;").climber(c, w), -1, 1, 4);
            each("what " + w + " of climber of none", BAD, c -> told("t1,1;s1;").climber(c, w), -1, 0, 4);
            each("what " + w + " of climber of no tower", BAD, c -> new TowerBraid().climber(c, w), -1, 0, 4);
        }
    }

    @Says(of = 16, value = "BAD.")
    private static void nothingElseOfAClimber() {
        TowerBraid x = told("t1,1;s1;c1,1,0;");
        each("what", BAD, what -> x.climber(0, what), -1, 6, 7, MIN, MAX);
        each("what of nobody", BAD, what -> x.climber(1, what), -1, 6);
    }
}
