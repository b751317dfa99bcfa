/** The sentences about KINDS, ASKS, counts and status() that name an edge, each by a test of its own. */
final class AskedEdgeTests extends Edges {
    /** By strand: hair, silk, grey hair, rope, twine. */
    private static final String FIVE = "t1,1;h30;s20;g25;r18;w15;c60,1,0;";
    private static final int[] NO_STRANDS = {-1, 5, 6, 64, MIN, MAX};

    private AskedEdgeTests() {
    }

    public static void main(String[] args) throws IllegalAccessException {
        run(AskedEdgeTests.class, args);
    }

    private static void asked(TowerBraid x, int strand, int what, int want, int... bodies) {
        due("ask " + strand + " " + what, want, x.ask(strand, what));
        traced(x, bodies);
    }

    private static void traced(TowerBraid x, int... bodies) {
        for (int i = 0; i < bodies.length; i++) {
            due("trace " + i, bodies[i], x.trace(i));
        }
        for (int i = bodies.length; i < 17; i++) {
            due("nothing at trace " + i, NONE, x.trace(i));
        }
    }

    /** Hair 30 is worn by 2, grey hair 25 by 4. */
    private static TowerBraid worn() {
        TowerBraid x = plaited(FIVE, 7);
        due("60 by three", 0, x.climb(0));
        due("hair is worn", 2, x.strand(0, 1));
        due("grey hair is worn", 4, x.strand(2, 1));
        return x;
    }

    // ---- Terms: kinds

    @Says("0 STRAND; 1 HAIR, a STRAND; 2 SILK, a HAIR; 3 GREY, a HAIR; 4 ROPE, a STRAND; 5 TWINE, a ROPE.")
    private static void kindsAreAlsoTheirNearest() {
        TowerBraid x = told(FIVE);
        // By strand: the kinds that it is (bits).
        int[] is = {3, 7, 11, 17, 49};
        for (int s = 0; s < 5; s++) {
            for (int k = 0; k < 6; k++) {
                due(s + " as " + k, (is[s] >> k & 1) == 1 ? s : KIND, x.as(s, k));
            }
        }
    }

    @Says("3 KIND (a STRAND that is not that)")
    private static void aStrandThatIsNotThat() {
        TowerBraid x = told(FIVE);
        due("hair as silk", KIND, x.as(0, 2));
        due("its number", 3, x.status());
        due("rope as hair", KIND, x.as(3, 1));
        due("rope as twine", KIND, x.as(3, 5));
        due("twine as silk", KIND, x.as(4, 2));
        due("grey hair as silk", KIND, x.as(2, 2));
    }

    // ---- Terms: asks

    @Says("Numbers go from 0 on.")
    private static void numbersGoFrom0On() {
        TowerBraid x = plaited("t1,1;s9;c9,1,0;", 1);
        due("the first row", 1, x.row(0, 0, 1));
        due("its first place", 5, x.set(0, 0, 5));
        due("the first strand", 9, x.strand(0, 0));
        due("no second", BAD, x.strand(1, 0));
        due("the first climber", 0, x.climb(0));
        due("no second", BAD, x.climb(1));
        due("the first day", 0, x.count(3));
        due("the first image", 1, x.image(0));
        due("its mark", 0, x.ask(0, 1));
        due("the first of the trace", 24, x.trace(0));
    }

    @Says("(Of an ask the BODY told for the KIND begins, else that of the nearest KIND that it is, too, else the one that is lent;")
    private static void theBodyOfTheKindBegins() {
        TowerBraid x = told(FIVE);
        int[] size = {11, 12, 11, 13, 14};
        int[] mark = {21, 24, 22, 23, 23};
        for (int s = 0; s < 5; s++) {
            x.ask(s, 0);
            due("size of " + s, size[s], x.trace(0));
            x.ask(s, 1);
            due("mark of " + s, mark[s], x.trace(0));
        }
    }

    @Says("SIZE, MARK within others are asked of the same STRAND anew.)")
    private static void withinOthersTheSameStrandIsAskedAnew() {
        TowerBraid x = told("t1,1;h1;h2;s3;g4;h5;w6;");
        asked(x, 4, 0, 5 + 4, 11, 10, 21, 20);
        asked(x, 3, 0, 4 + 3 - 1000, 11, 10, 22, 21, 20);
        asked(x, 2, 0, -(3 + 2 * 2), 12, 11, 10, 24, 21, 20);
        asked(x, 5, 1, 5 - 2 * (6 - 100), 23, 20, 14, 13, 10);
    }

    @Says("(the first 16): 0 SIZE: 10 lent to all STRANDS: BEARS. 11 of HAIRS: what 10 gives, and MARK.")
    private static void sizeOfHair() {
        asked(worn(), 0, 0, 30 + 0 + 2, 11, 10, 21, 20);
        asked(told("t1,1;r1;h99;"), 1, 0, 99 + 1, 11, 10, 21, 20);
    }

    @Says("12 of SILKS: 0 less what 11 gives.")
    private static void sizeOfSilk() {
        asked(worn(), 1, 0, -(20 + 2 * 1), 12, 11, 10, 24, 21, 20);
        asked(told("t1,1;s99;"), 0, 0, -99, 12, 11, 10, 24, 21, 20);
        asked(told("t1,1;r1;r1;r1;r1;r1;s1;"), 5, 0, -11, 12, 11, 10, 24, 21, 20);
    }

    @Says("13 of ROPES: what 10 gives, less 100.")
    private static void sizeOfRope() {
        asked(worn(), 3, 0, 18 - 100, 13, 10);
        TowerBraid x = plaited("t1,1;r99;c9,1,0;", 1);
        x.climb(0);
        asked(x, 0, 0, -1, 13, 10);
    }

    @Says("14 of TWINES: twice what 13 gives (asked once).")
    private static void sizeOfTwine() {
        asked(worn(), 4, 0, 2 * (15 - 100), 14, 13, 10);
        TowerBraid x = plaited("t1,1;w99;c9,1,0;", 1);
        x.climb(0);
        asked(x, 0, 0, -2, 14, 13, 10);
    }

    @Says("1 MARK: 20 lent to all STRANDS: the number. 21 of HAIRS: what 20 gives, and how much it is WORN.")
    private static void markOfHair() {
        asked(worn(), 0, 1, 0 + 2, 21, 20);
        asked(told("t1,1;r1;r1;r1;r1;r1;h9;"), 5, 1, 5, 21, 20);
    }

    @Says("22 of GREY ones: what 21 gives, less 1000.")
    private static void markOfGreyHair() {
        asked(worn(), 2, 1, 2 + 4 - 1000, 22, 21, 20);
        asked(told("t1,1;g1;"), 0, 1, -1000, 22, 21, 20);
    }

    @Says("22 of GREY ones: what 21 gives, less 1000.")
    private static void sizeOfGreyHairAsksItsMark() {
        asked(worn(), 2, 0, 25 + 2 + 4 - 1000, 11, 10, 22, 21, 20);
    }

    @Says("23 of ROPES: what 20 gives, less SIZE.")
    private static void markOfRope() {
        asked(worn(), 3, 1, 3 - (18 - 100), 23, 20, 13, 10);
        asked(told("t1,1;r99;"), 0, 1, 1, 23, 20, 13, 10);
    }

    @Says("23 of ROPES: what 20 gives, less SIZE.")
    private static void markOfTwineAsksItsSize() {
        asked(worn(), 4, 1, 4 - 2 * (15 - 100), 23, 20, 14, 13, 10);
    }

    @Says("24 of SILKS: twice what 21 gives (asked once).")
    private static void markOfSilk() {
        asked(worn(), 1, 1, 2 * 1, 24, 21, 20);
        asked(told("t1,1;s9;"), 0, 1, 0, 24, 21, 20);
        asked(told("t1,1;r1;r1;r1;r1;r1;s9;"), 5, 1, 10, 24, 21, 20);
    }

    @Says("4 ASKS of STRANDS, by BODIES, each of which leaves its number in THE TRACE as it begins (the first 16)")
    private static void bodiesLeaveTheirNumbersAsTheyBegin() {
        TowerBraid x = worn();
        x.ask(1, 0);
        traced(x, 12, 11, 10, 24, 21, 20);
    }

    // ---- Promise 30

    @Says(of = 30, value = "The KIND of a STRAND, as told (1 to 5).")
    private static void kindsAre1To5() {
        TowerBraid x = told(FIVE);
        for (int s = 0; s < 5; s++) {
            due("kind of " + s, s + 1, x.kind(s));
        }
        x.as(4, 0);
        x.as(4, 4);
        due("as told, whatever it was taken as", 5, x.kind(4));
    }

    @Says(of = 30, value = "BAD.")
    private static void kindOfNoStrandIsBad() {
        TowerBraid x = told(FIVE);
        each("strand", BAD, x::kind, NO_STRANDS);
        due("the last", 5, x.kind(4));
        each("strand of none", BAD, told("t1,1;")::kind, 0, 5, -1);
        each("strand of no tower", BAD, new TowerBraid()::kind, 0, 5, -1);
    }

    @Says(of = 30, value = "The KIND of a STRAND")
    private static void oneThatIsGoneHasAKind() {
        TowerBraid x = plaited("t1,1;w1;c9,1,0;", 1);
        x.climb(0);
        due("gone", 1, x.strand(0, 2));
        due("kind", 5, x.kind(0));
        due("as a rope", 0, x.as(0, 4));
        due("size", -198, x.ask(0, 0));
    }

    // ---- Promise 31

    @Says(of = 31, value = "A STRAND is taken as one of a KIND (0 .. 5): the STRAND's number. BAD;")
    private static void asOfNoKindIsBad() {
        TowerBraid x = told(FIVE);
        for (int s = 0; s < 5; s++) {
            int strand = s;
            each(s + " as kind", BAD, k -> x.as(strand, k), -1, 6, 7, MIN, MAX);
            due(s + " as a strand", s, x.as(s, 0));
            due(s + " as what it is", s, x.as(s, s + 1));
        }
    }

    @Says(of = 31, value = "BAD; KIND: it is no such one.")
    private static void asOfNoStrandIsBad() {
        TowerBraid x = told(FIVE);
        each("strand", BAD, s -> x.as(s, 0), NO_STRANDS);
        each("strand, as a silk", BAD, s -> x.as(s, 2), NO_STRANDS);
        each("strand of none", BAD, s -> told("t1,1;").as(s, 0), 0, 5, -1);
        each("strand of no tower", BAD, s -> new TowerBraid().as(s, 0), 0, 5, -1);
    }

    @Says(of = 31, value = "KIND: it is no such one.")
    private static void asOfAnotherKindIsAKind() {
        TowerBraid x = told(FIVE);
        due("twine as grey hair", KIND, x.as(4, 3));
        due("its kind stays", 5, x.kind(4));
        due("its bodies, too", 2 * (15 - 100), x.ask(4, 0));
    }

    // ---- Promise 32

    @Says(of = 32, value = "An ASK (0, 1) of a STRAND. BAD (THE TRACE stays then).")
    private static void askOfNothingIsBad() {
        TowerBraid x = told(FIVE);
        each("what", BAD, what -> x.ask(0, what), -1, 2, 3, MIN, MAX);
        each("strand, its size", BAD, s -> x.ask(s, 0), NO_STRANDS);
        each("strand, its mark", BAD, s -> x.ask(s, 1), NO_STRANDS);
        each("strand of none", BAD, s -> told("t1,1;").ask(s, 0), 0, 5, -1);
        each("strand of no tower", BAD, s -> new TowerBraid().ask(s, 0), 0, 5, -1);
    }

    @Says(of = 32, value = "BAD (THE TRACE stays then).")
    private static void theTraceStaysByABadAsk() {
        TowerBraid x = told(FIVE);
        x.ask(3, 1);
        due("no strand", BAD, x.ask(5, 0));
        traced(x, 23, 20, 13, 10);
        due("nothing asked", BAD, x.ask(0, 2));
        traced(x, 23, 20, 13, 10);
    }

    @Says(of = 32, value = "THE TRACE is empty ahead of it.")
    private static void theTraceIsEmptyAheadOfAnAsk() {
        TowerBraid x = told(FIVE);
        x.ask(1, 0);
        x.ask(0, 1);
        traced(x, 21, 20);
        x.ask(0, 1);
        traced(x, 21, 20);
        x.ask(4, 1);
        traced(x, 23, 20, 14, 13, 10);
    }

    // ---- Promise 33

    @Says(of = 33, value = "Number i of THE TRACE; NONE.")
    private static void thereIsNoSuchNumberOfTheTrace() {
        TowerBraid x = told(FIVE);
        each("trace before any ask", NONE, x::trace, 0, 1, 15, 16, -1, MIN, MAX);
        x.ask(3, 0);
        due("first", 13, x.trace(0));
        due("second", 10, x.trace(1));
        each("trace", NONE, x::trace, 2, 3, 15, 16, 17, -1, -2, MIN, MAX);
    }

    @Says(of = 33, value = "Number i of THE TRACE")
    private static void theTraceStaysByOtherCalls() {
        TowerBraid x = worn();
        x.ask(3, 0);
        x.undo();
        x.as(0, 0);
        x.kind(0);
        x.image(0);
        x.restore(0);
        fed(x, "t1,1;").tower();
        traced(x, 13, 10);
    }

    // ---- Promise 34

    @Says(of = 34, value = "How many: 0 ROWS, 1 STRANDS, 2 CLIMBERS, 3 the DAY, 4 HIGH, 5 LONG, 6 whether there is a PEG (1, 0), 7 the PLAIT (bits), 8 ACTS that can be undone, 9 bytes on the tape. BAD.")
    private static void countTellsTen() {
        TowerBraid x = plaited("t2,20;h1;s9;s9;c9,1,0;c8,1,0;", 5);
        x.climb(0);
        x.row(3, 0, 0);
        x.row(5, 0, 9);
        x.row(7, 1, 9);
        x.row(7, 1, 8);
        x.day();
        x.day();
        x.day();
        x.cut(9);
        x.peg(1);
        x.plait(6);
        fed(x, "t1,1");
        int[] counts = {3, 3, 2, 3, 2, 14, 1, 6, 8, 4};
        for (int what = 0; what < 10; what++) {
            due("count " + what, counts[what], x.count(what));
        }
    }

    @Says(of = 34, value = "BAD.")
    private static void countOfNothingElseIsBad() {
        TowerBraid x = told(FIVE);
        each("count", BAD, x::count, -1, 10, 11, MIN, MAX);
        each("count of a new object", BAD, new TowerBraid()::count, -1, 10, 11, MIN, MAX);
        due("9", 0, x.count(9));
        due("0", 0, x.count(0));
    }

    @Says(of = 34, value = "1 STRANDS")
    private static void strandsThatAreGoneAreCounted() {
        TowerBraid x = plaited("t1,1;h1;h1;c9,1,0;", 3);
        due("both break", 2, x.climb(0));
        due("two yet", 2, x.count(1));
    }

    // ---- Promise 35

    private static TowerBraid found(int status) {
        TowerBraid x = told("t1,1;h9;c9,1,0;");
        x.row(0, 0, 2);
        x.row(1, 1, 2);
        switch (status) {
            case 1 -> due("null", NULL, x.drop(5));
            case 2 -> due("place", PLACE, x.set(0, 2, 1));
            case 3 -> due("kind", KIND, x.as(0, 2));
            case 4 -> due("size", SIZE, x.row(0, 0, -1));
            case 5 -> due("store", STORE, x.copy(0, 0, 1, 0, 1));
            default -> due("none", 0, x.as(0, 1));
        }
        due("status", status, x.status());
        return x;
    }

    @Says(of = 35, value = "the number of its FINDING; 0: it had none, or there was none.")
    private static void statusIsTheNumberOfTheFinding() {
        for (int status = 0; status <= 5; status++) {
            TowerBraid x = found(status);
            due("status yet", status, x.status());
        }
    }

    @Says(of = 35, value = "0: it had none, or there was none.")
    private static void statusIs0BeforeAnyCall() {
        due("new", 0, new TowerBraid().status());
        TowerBraid x = new TowerBraid();
        x.row(8, 0, 0);
        x.set(-1, 0, 0);
        due("only bad ones", 0, x.status());
    }

    @Says(of = 35, value = "0: it had none, or there was none.")
    private static void statusIs0BehindOneThatHadNone() {
        for (int status = 1; status <= 5; status++) {
            TowerBraid x = found(status);
            due("row", 2, x.row(2, 0, 2));
            due("status of row", 0, x.status());
            x = found(status);
            due("set", 1, x.set(0, 0, 1));
            due("status of set", 0, x.status());
            x = found(status);
            due("copy", 0, x.copy(0, 0, 0, 0, 0));
            due("status of copy", 0, x.status());
            x = found(status);
            due("drop", 2, x.drop(0));
            due("status of drop", 0, x.status());
            x = found(status);
            due("as", 0, x.as(0, 0));
            due("status of as", 0, x.status());
        }
    }

    @Says(of = 35, value = "Of the latest call with a ROW, or as(), that was not BAD, STATE, FULL: the number of its FINDING")
    private static void statusOfClimbers() {
        TowerBraid x = found(3);
        x.set(0, 0, 1);
        x.set(0, 1, 9);
        x.as(0, 2);
        due("climbers", 1, x.climbers(0, 0, 1));
        due("had none", 0, x.status());
        due("place", PLACE, x.climbers(0, 1, 1));
        due("its status", 2, x.status());
        due("null", NULL, x.climbers(6, 1, 1));
        due("its status", 1, x.status());
    }

    @Says(of = 35, value = "Of the latest call with a ROW, or as(), that was not BAD, STATE, FULL: the number of its FINDING")
    private static void badCallsLeaveTheStatus() {
        for (int status = 1; status <= 5; status++) {
            TowerBraid x = found(status);
            due("row", BAD, x.row(8, 0, 0));
            due("row of a lane", BAD, x.row(0, 3, 0));
            due("row of too many", BAD, x.row(0, 0, 41));
            due("set", BAD, x.set(8, 0, 0));
            due("copy", BAD, x.copy(8, 0, 0, 0, 0));
            due("drop", BAD, x.drop(-1));
            due("climbers of no row", BAD, x.climbers(8, 0, 1));
            due("climbers of none", BAD, x.climbers(0, 0, 0));
            due("as of no strand", BAD, x.as(1, 0));
            due("as of no kind", BAD, x.as(0, 6));
            due("status", status, x.status());
        }
    }

    @Says(of = 35, value = "Of the latest call with a ROW, or as(), that was not BAD, STATE, FULL: the number of its FINDING")
    private static void badClimbersBehindFindingsLeaveTheStatus() {
        for (int status = 1; status <= 5; status++) {
            TowerBraid x = found(status);
            due("no set", BAD, x.climbers(0, 0, 1));
            due("status", status, x.status());
        }
    }

    @Says(of = 35, value = "Of the latest call with a ROW, or as(), that was not BAD, STATE, FULL: the number of its FINDING")
    private static void climbersWithoutATowerLeaveTheStatus() {
        TowerBraid x = new TowerBraid();
        x.row(0, 0, -1);
        due("size", 4, x.status());
        due("no tower", STATE, x.climbers(1, 0, 1));
        due("size yet", 4, x.status());
    }

    @Says(of = 35, value = "Of the latest call with a ROW, or as()")
    private static void otherCallsLeaveTheStatus() {
        for (int status = 1; status <= 5; status++) {
            TowerBraid x = found(status);
            x.plait(1);
            x.climb(0);
            x.day();
            x.cut(1);
            x.peg(1);
            x.undo();
            x.undo();
            x.plait(-1);
            x.plan(1, -1);
            x.storm(0, 1, 0);
            x.climbed(1);
            x.image(0);
            x.restore(0);
            x.restore(1);
            x.ask(0, 0);
            x.ask(9, 9);
            x.kind(0);
            x.trace(0);
            x.count(0);
            x.feed(-1);
            fed(x, "t1,1!").tower();
            fed(x, "t1,1;").tower();
            due("status", status, x.status());
        }
    }
}
