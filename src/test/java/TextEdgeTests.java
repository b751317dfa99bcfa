/** The sentences about THE TAPE, TEXTS and FAULTS that name an edge, each by a test of its own. */
final class TextEdgeTests extends Edges {
    private static final String SIX = "h1;h2;h3;h4;h5;h6;";
    private static final String FIVE = "c1,1,0;c2,1,0;c3,1,0;c4,1,0;c5,1,0;";
    /** As long as a text can be that has no fault: 81 bytes. */
    private static final String LONGEST = "t99,99;h99;s99;g99;r99;w99;h99;"
            + "c99,09,08;c99,09,08;c99,09,08;c99,09,08;c99,09,08;";

    private TextEdgeTests() {
    }

    public static void main(String[] args) throws IllegalAccessException {
        run(TextEdgeTests.class, args);
    }

    private static void fault(String text, int place, int fault) {
        TowerBraid x = fed(new TowerBraid(), text);
        due("tower of " + text, -1000100 - place, x.tower());
        due("fault of " + text, fault, x.fault());
        due("no tower of " + text, STATE, x.never());
    }

    private static void read(String text, int strands, int climbers) {
        TowerBraid x = fed(new TowerBraid(), text);
        due("tower of " + text, climbers, x.tower());
        due("strands of " + text, strands, x.count(1));
        due("climbers of " + text, climbers, x.count(2));
        due("no fault of " + text, 0, x.fault());
    }

    /** A byte that can stand nowhere, in place of each byte of a text. */
    private static void nowhere(int letter) {
        String text = "t10,20;h30;c40,1,0;";
        for (int i = 0; i < text.length(); i++) {
            TowerBraid x = fed(new TowerBraid(), text.substring(0, i));
            x.feed(letter);
            fed(x, text.substring(i + 1));
            due("byte " + letter + " at " + i, -1000100 - i, x.tower());
            due("its fault", 1, x.fault());
        }
    }

    // ---- Terms: texts

    @Says("THE TAPE has at most 120 bytes, that come one by one")
    private static void tapeHas120Bytes() {
        TowerBraid x = new TowerBraid();
        for (int i = 1; i <= 120; i++) {
            due("byte " + i, i, x.feed('t'));
            due("as many", i, x.count(9));
        }
        each("byte 121", FULL, x::feed, 't', 0, 255);
        due("120 yet", 120, x.count(9));
    }

    @Says("THE TAPE has at most 120 bytes, that come one by one")
    private static void tapeOf120BytesIsRead() {
        TowerBraid x = fed(new TowerBraid(), LONGEST);
        for (int i = LONGEST.length(); i < 120; i++) {
            x.feed('c');
        }
        due("120", 120, x.count(9));
        due("a sixth climber", -1000181, x.tower());
        due("is one more than there is room for", 3, x.fault());
        due("empty then", 1, x.feed('t'));
    }

    @Says("letters a to z (each by itself)")
    private static void lettersStandEachByItself() {
        fault("tt1,1;", 1, 1);
        fault("t1,1;hh1;", 6, 1);
        fault("t1,1;hs1;", 6, 1);
        fault("t1,1;cc1,1,0;", 6, 1);
        fault("t1,1;h1;h;", 9, 1);
    }

    @Says("letters a to z (each by itself)")
    private static void lettersOfNoKindCannotStand() {
        for (char letter = 'a'; letter <= 'z'; letter++) {
            if ("hsgrwc".indexOf(letter) < 0) {
                fault("t1,1;" + letter + "1;", 5, 1);
                fault("t1,1;h1;" + letter + "1;", 8, 1);
                fault("t1,1;c1,1,0;" + letter, 12, 1);
            }
            if (letter != 't') {
                fault(letter + "1,1;", 0, 1);
            }
        }
    }

    @Says("NUMBERS (figures, 2 at most)")
    private static void numbersHaveOneOrTwoFigures() {
        read("t1,1;", 0, 0);
        read("t01,01;h01;c01,01,00;", 1, 1);
        read("t10,99;h10;c10,9,8;", 1, 1);
        fault("t001,1;", 1, 1);
        fault("t1,001;", 3, 1);
        fault("t1,1;h001;", 6, 1);
        fault("t1,1;c001,1,0;", 6, 1);
        fault("t1,1;c1,001,0;", 8, 1);
        fault("t1,1;c1,1,000;", 10, 1);
    }

    @Says("NUMBERS (figures, 2 at most)")
    private static void numbersHaveAFigureAtLeast() {
        fault("t,1;", 1, 1);
        fault("t1,;", 3, 1);
        fault("t1,1;h;", 6, 1);
        fault("t1,1;c,1,0;", 6, 1);
        fault("t1,1;c1,,0;", 8, 1);
        fault("t1,1;c1,1,;", 10, 1);
    }

    @Says("SIGNS , and ; nothing else, no blanks.")
    private static void signsAreNotEachOther() {
        fault("t1;1;", 2, 1);
        fault("t1,1,", 4, 1);
        fault("t1,1;h1,", 7, 1);
        fault("t1,1;c1;1,0;", 7, 1);
        fault("t1,1;c1,1;0;", 9, 1);
        fault("t1,1;c1,1,0,", 11, 1);
        fault("t1,,1;", 3, 1);
        fault("t1,1;;", 5, 1);
        fault("t1,1;,", 5, 1);
    }

    @Says("nothing else, no blanks.")
    private static void blanksStandNowhere() {
        for (int blank : new int[] {' ', '\t', '\n', '\r', 11, 12, 0, 160}) {
            nowhere(blank);
        }
        fault(" t1,1;", 0, 1);
        fault("t1,1; ", 5, 1);
        fault("t1,1;\n", 5, 1);
        fault("t1,1;c1,1,0; ", 12, 1);
    }

    @Says("nothing else, no blanks.")
    private static void signsOfNoKindStandNowhere() {
        for (int sign : new int[] {'.', ':', '-', '+', '/', '@', '[', '`', '{', '!', '_', 127}) {
            nowhere(sign);
        }
    }

    @Says("nothing else, no blanks.")
    private static void largeLettersStandNowhere() {
        for (int letter : new int[] {'T', 'H', 'C', 'S', 'A', 'Z'}) {
            nowhere(letter);
        }
    }

    @Says("nothing else, no blanks.")
    private static void bytesAbove127StandNowhere() {
        for (int letter : new int[] {128, 't' + 128, 'h' + 128, '1' + 128, ',' + 128, ';' + 128, 255, 178, 185}) {
            nowhere(letter);
        }
    }

    @Says("tower: law { strand } { climber }.")
    private static void strandsAndClimbersMayBeNone() {
        read("t1,1;", 0, 0);
        read("t1,1;h1;", 1, 0);
        read("t1,1;c1,1,0;", 0, 1);
        fault("", 0, 1);
        fault("h1;", 0, 1);
        fault("c1,1,0;", 0, 1);
    }

    @Says("tower: law { strand } { climber }.")
    private static void strandsStandAheadOfClimbers() {
        read("t1,1;h1;h1;c1,1,0;c1,1,0;", 2, 2);
        fault("t1,1;c1,1,0;h1;", 12, 1);
        fault("t1,1;h1;c1,1,0;w1;", 15, 1);
    }

    @Says("tower: law { strand } { climber }.")
    private static void thereIsOneLaw() {
        fault("t1,1;t1,1;", 5, 1);
        fault("t1,1;h1;t1,1;", 8, 1);
        fault("t1,1;c1,1,0;t1,1;", 12, 1);
    }

    @Says("law: t HIGH , LONG ; (1 to 99 each).")
    private static void highIs1To99() {
        due("1", 1, told("t1,5;").count(4));
        due("99", 99, told("t99,5;").count(4));
        fault("t0,5;", 1, 2);
        fault("t00,5;", 1, 2);
        fault("t100,5;", 1, 1);
    }

    @Says("law: t HIGH , LONG ; (1 to 99 each).")
    private static void longIs1To99() {
        due("1", 1, told("t5,1;").count(5));
        due("99", 99, told("t5,99;").count(5));
        fault("t5,0;", 3, 2);
        fault("t5,00;", 3, 2);
        fault("t5,100;", 3, 1);
    }

    @Says("(SORT: h hair, s silk, g grey hair, r rope, w twine; 1 to 99; STRANDS 0 .. 5, 6 at most)")
    private static void bearsIs1To99() {
        for (String sort : new String[] {"h", "s", "g", "r", "w"}) {
            due(sort + "1", 1, told("t1,1;" + sort + "1;").strand(0, 0));
            due(sort + "99", 99, told("t1,1;" + sort + "99;").strand(0, 0));
            fault("t1,1;" + sort + "0;", 6, 2);
            fault("t1,1;" + sort + "00;", 6, 2);
            fault("t1,1;" + sort + "100;", 6, 1);
        }
    }

    @Says("(SORT: h hair, s silk, g grey hair, r rope, w twine; 1 to 99; STRANDS 0 .. 5, 6 at most)")
    private static void sixStrandsAtMost() {
        for (int n = 0; n <= 6; n++) {
            TowerBraid x = told("t1,1;" + SIX.substring(0, 3 * n));
            due("strands", n, x.count(1));
            due("no strand " + n, BAD, x.strand(n, 0));
            for (int s = 0; s < n; s++) {
                due("strand " + s, s + 1, x.strand(s, 0));
            }
        }
        for (String sort : new String[] {"h", "s", "g", "r", "w"}) {
            fault("t1,1;" + SIX + sort + "1;", 23, 3);
        }
    }

    @Says("climber: c WEIGHT , EVERY , OFF ; (1 to 99; 1 to 9; 0 to EVERY less 1; CLIMBERS 0 .. 4, 5 at most).")
    private static void weightIs1To99() {
        due("1", 1, told("t1,1;c1,1,0;").climber(0, 0));
        due("99", 99, told("t1,1;c99,1,0;").climber(0, 0));
        fault("t1,1;c0,1,0;", 6, 2);
        fault("t1,1;c00,1,0;", 6, 2);
        fault("t1,1;c100,1,0;", 6, 1);
    }

    @Says("climber: c WEIGHT , EVERY , OFF ; (1 to 99; 1 to 9; 0 to EVERY less 1; CLIMBERS 0 .. 4, 5 at most).")
    private static void everyIs1To9() {
        for (int every = 1; every <= 9; every++) {
            due("" + every, every, told("t1,1;c1," + every + ",0;").climber(0, 1));
        }
        fault("t1,1;c1,0,0;", 8, 2);
        fault("t1,1;c1,00,0;", 8, 2);
        fault("t1,1;c1,10,0;", 8, 2);
        fault("t1,1;c1,99,0;", 8, 2);
        fault("t1,1;c1,100,0;", 8, 1);
    }

    @Says("climber: c WEIGHT , EVERY , OFF ; (1 to 99; 1 to 9; 0 to EVERY less 1; CLIMBERS 0 .. 4, 5 at most).")
    private static void offIs0ToEveryLess1() {
        for (int every = 1; every <= 9; every++) {
            String text = "t1,1;c1," + every + ",";
            due("0 of " + every, 0, told(text + "0;").climber(0, 2));
            due("most of " + every, every - 1, told(text + (every - 1) + ";").climber(0, 2));
            fault(text + every + ";", 10, 2);
            fault(text + "99;", 10, 2);
            fault(text + "100;", 10, 1);
        }
    }

    @Says("climber: c WEIGHT , EVERY , OFF ; (1 to 99; 1 to 9; 0 to EVERY less 1; CLIMBERS 0 .. 4, 5 at most).")
    private static void fiveClimbersAtMost() {
        for (int n = 0; n <= 5; n++) {
            TowerBraid x = fed(new TowerBraid(), "t1,1;" + FIVE.substring(0, 7 * n));
            due("tower of " + n, n, x.tower());
            due("no climber " + n, BAD, x.climber(n, 0));
            for (int c = 0; c < n; c++) {
                due("climber " + c, c + 1, x.climber(c, 0));
            }
        }
        fault("t1,1;" + FIVE + "c6,1,0;", 40, 3);
    }

    // ---- Terms: a tower that is read

    /** All has become another, and the tape tells a tower of two silks and one climber. */
    private static TowerBraid before() {
        TowerBraid x = told("t1,5;h50;s2;c40,1,0;");
        x.image(1);
        x.row(4, 2, 9);
        x.plait(2);
        due("the silk breaks", 1, x.climb(0));
        x.plait(1);
        due("the hair holds", 0, x.climb(0));
        x.day();
        x.day();
        x.peg(1);
        return fed(x, "t3,4;s9;s8;c7,2,1;");
    }

    @Says("A TOWER that is read stands in place of the one before (none at first)")
    private static void thereIsNoTowerAtFirst() {
        TowerBraid x = new TowerBraid();
        due("never", STATE, x.never());
        due("no strands", 0, x.count(1));
        due("no climbers", 0, x.count(2));
        due("not high", 0, x.count(4));
        due("not long", 0, x.count(5));
        fed(x, "t3,4;");
        due("a tape is none yet", STATE, x.never());
    }

    @Says("A TOWER that is read stands in place of the one before (none at first)")
    private static void aTowerStandsInPlaceOfTheOneBefore() {
        TowerBraid x = before();
        due("the old one till then", 50, x.strand(0, 0));
        due("tower", 1, x.tower());
        due("high", 3, x.count(4));
        due("long", 4, x.count(5));
        due("strands", 2, x.count(1));
        due("bears", 9, x.strand(0, 0));
        due("kind", 2, x.kind(0));
        due("weight", 7, x.climber(0, 0));
        due("every", 2, x.climber(0, 1));
        due("off", 1, x.climber(0, 2));
        fed(x, "t1,1;").tower();
        due("no strands", 0, x.count(1));
        due("strand 0", BAD, x.strand(0, 0));
        due("climber 0", BAD, x.climber(0, 0));
    }

    @Says("DAY 0, no STRAND is in the PLAIT, WORN, or GONE, there is no PEG, nobody FELL")
    private static void aNewTowerIsAtDay0() {
        TowerBraid x = before();
        due("day", 2, x.count(3));
        x.tower();
        due("day", 0, x.count(3));
        due("nobody is due", 0, x.due(0));
        due("the first day", 1, x.day());
    }

    @Says("no STRAND is in the PLAIT, WORN, or GONE")
    private static void noStrandIsInThePlaitOfANewTower() {
        TowerBraid x = before();
        due("plait", 1, x.count(7));
        x.tower();
        due("plait", 0, x.count(7));
        due("strand 0", 0, x.strand(0, 3));
        due("nobody is borne", 0, x.climber(0, 4));
        due("no strain", 0, x.climber(0, 5));
    }

    @Says("no STRAND is in the PLAIT, WORN, or GONE")
    private static void noStrandOfANewTowerIsWorn() {
        TowerBraid x = before();
        due("worn", 4, x.strand(0, 1));
        x.tower();
        due("worn", 0, x.strand(0, 1));
        due("nor the other", 0, x.strand(1, 1));
    }

    @Says("no STRAND is in the PLAIT, WORN, or GONE")
    private static void noStrandOfANewTowerIsGone() {
        TowerBraid x = before();
        due("gone", 1, x.strand(1, 2));
        x.tower();
        due("gone", 0, x.strand(1, 2));
        due("both can be plaited", 2, x.plait(3));
    }

    @Says("no STRAND is in the PLAIT, WORN, or GONE")
    private static void noneOfSixStrandsIsWornOrGone() {
        String text = "t1,1;r9;r9;r9;r9;r9;r9;c54,1,0;c60,1,0;";
        TowerBraid x = told(text);
        x.plait(63);
        due("all hold", 0, x.climb(0));
        fed(x, text).tower();
        for (int s = 0; s < 6; s++) {
            due("worn " + s, 0, x.strand(s, 1));
        }
        x.plait(63);
        due("all break", 6, x.climb(1));
        fed(x, text).tower();
        for (int s = 0; s < 6; s++) {
            due("gone " + s, 0, x.strand(s, 2));
        }
        due("all can be plaited", 6, x.plait(63));
        due("and hold", 0, x.climb(0));
    }

    @Says("there is no PEG")
    private static void aNewTowerHasNoPeg() {
        TowerBraid x = before();
        due("peg", 1, x.count(6));
        x.tower();
        due("peg", 0, x.count(6));
        due("it is gone", STATE, x.peg(0));
        due("it may come", 1, x.peg(1));
    }

    @Says("nobody FELL")
    private static void nobodyFellOfANewTower() {
        TowerBraid x = before();
        due("fell", 1, x.climber(0, 3));
        x.tower();
        due("fell", 0, x.climber(0, 3));
    }

    @Says("nobody FELL")
    private static void noneOfFiveClimbersFell() {
        String text = "t1,1;s1;s1;s1;s1;s1;c9,1,0;c9,1,0;c9,1,0;c9,1,0;c9,1,0;";
        TowerBraid x = told(text);
        for (int c = 0; c < 5; c++) {
            x.plait(1 << c);
            x.climb(c);
            due("fell, " + c, 1, x.climber(c, 3));
        }
        fed(x, text).tower();
        for (int c = 0; c < 5; c++) {
            due("not fallen, " + c, 0, x.climber(c, 3));
        }
    }

    @Says("no ACT can be undone; IMAGES and ROWS stay.")
    private static void noActIsUndoneInANewTower() {
        TowerBraid x = before();
        due("acts", 7, x.count(8));
        x.tower();
        due("acts", 0, x.count(8));
        due("undo", STATE, x.undo());
        x.day();
        due("only those of its own", 0, x.undo());
        due("none is left", STATE, x.undo());
    }

    @Says("IMAGES and ROWS stay.")
    private static void imagesStay() {
        TowerBraid x = before();
        x.tower();
        due("none was kept", STATE, x.restore(0));
        due("one was", 1, x.restore(1));
        due("hair", 50, x.strand(0, 0));
        due("climber", 40, x.climber(0, 0));
    }

    @Says("IMAGES and ROWS stay.")
    private static void rowsStay() {
        TowerBraid x = before();
        x.tower();
        due("one", 1, x.count(0));
        due("its last place", MAX, x.set(4, 8, MAX));
        due("nine", 9, x.drop(4));
    }

    // ---- Terms: faults

    @Says("the first TOKEN that has one (its first byte)")
    private static void theFirstOfSeveralFaultsIsTold() {
        fault("t0,0;", 1, 2);
        fault("t0,100;", 1, 2);
        fault("t100,0;", 1, 1);
        fault("t1,0", 3, 2);
        fault("t1,0x", 3, 2);
        fault("t0;", 1, 2);
        fault("t1,1;h0;x", 6, 2);
        fault("t1,1;c0,0,0;", 6, 2);
        fault("t1,1;c1,0,9;", 8, 2);
        fault("t1,1;h0", 6, 2);
        fault("t1,1;" + SIX + "h0;", 23, 3);
        fault("t1,1;" + FIVE + "c0,0,0;", 40, 3);
    }

    @Says("the first TOKEN that has one (its first byte)")
    private static void theFirstByteOfANumberIsTold() {
        fault("t00,1;", 1, 2);
        fault("t1,00;", 3, 2);
        fault("t1,1;c1,10,0;", 8, 2);
        fault("t1,1;c1,5,10;", 10, 2);
    }

    @Says("1 it cannot stand there, or is none (a run of three figures or more, at its first; the end: how many bytes there are)")
    private static void aRunOfThreeFiguresIsAFaultAtItsFirst() {
        fault("t123,1;", 1, 1);
        fault("t1,1234;", 3, 1);
        fault("t1,1;h000000;", 6, 1);
        fault("t1,1;123", 5, 1);
        fault("t999", 1, 1);
        fault("123", 0, 1);
    }

    @Says("1 it cannot stand there, or is none (a run of three figures or more, at its first; the end: how many bytes there are)")
    private static void theEndIsAFaultAtHowManyBytesThereAre() {
        String text = "t10,20;h30;c40,9,8;";
        for (int end = 0; end < text.length(); end++) {
            if (end != 7 && end != 11) {
                fault(text.substring(0, end), end, 1);
            }
        }
        read(text.substring(0, 7), 0, 0);
        read(text.substring(0, 11), 1, 0);
        fault(LONGEST.substring(0, 80), 80, 1);
    }

    @Says("the end: how many bytes there are)")
    private static void theEndIsAheadOfWhatStoodOnALongerTape() {
        String longer = "t1111111111111,1;1111h1111;1111c1111,1,0;";
        for (String text : new String[] {"t", "t1", "t1,", "t1,1", "t1,1;h", "t1,1;h1", "t1,1;c", "t1,1;c1,1,0"}) {
            TowerBraid x = fed(new TowerBraid(), longer);
            due("longer", -1000101, x.tower());
            fed(x, text);
            due("end of " + text, -1000100 - text.length(), x.tower());
            due("its fault", 1, x.fault());
        }
        TowerBraid y = fed(new TowerBraid(), longer);
        y.tower();
        fed(y, "t1,1;");
        due("nothing of it is read", 0, y.tower());
    }

    @Says("1 it cannot stand there, or is none")
    private static void numbersCannotStandInPlaceOfOthers() {
        fault("1", 0, 1);
        fault("1t", 0, 1);
        fault("t1,1;1", 5, 1);
        fault("t1,1;0", 5, 1);
        fault("t1,1;h1;5;", 8, 1);
        fault("t1,1;c1,1,0;5", 12, 1);
        fault("t1,1;h5h", 7, 1);
    }

    @Says("of one TOKEN the least: 1 it cannot stand there")
    private static void whatCannotStandThereIsNotOneTooMany() {
        fault("t1,1;" + SIX + "c1,1,0;h", 30, 1);
        fault("t1,1;" + SIX + "x", 23, 1);
        fault("t1,1;" + SIX + "t", 23, 1);
        fault("t1,1;" + FIVE + "h", 40, 1);
        fault("t1,1;" + SIX + FIVE + "h", 58, 1);
    }

    @Says("2 a NUMBER that is not as told")
    private static void aNumberThatIsNotAsToldIsFault2() {
        fault("t0,1;", 1, 2);
        fault("t1,0;", 3, 2);
        fault("t1,1;s0;", 6, 2);
        fault("t1,1;c0,1,0;", 6, 2);
        fault("t1,1;c1,0,0;", 8, 2);
        fault("t1,1;c1,1,1;", 10, 2);
    }

    @Says("3 a strand, a climber more than there is room for (its letter).")
    private static void oneMoreThanThereIsRoomForIsFault3() {
        fault("t1,1;" + SIX + "h", 23, 3);
        fault("t1,1;" + SIX + "wx", 23, 3);
        fault("t1,1;" + FIVE + "c", 40, 3);
        fault("t1,1;" + FIVE + "cx", 40, 3);
        fault(LONGEST + "c1,1,0;", 81, 3);
    }

    @Says("3 a strand, a climber more than there is room for (its letter).")
    private static void asManyAsThereIsRoomForAreNoFault() {
        read("t1,1;" + SIX, 6, 0);
        read("t1,1;" + FIVE, 0, 5);
        read("t1,1;" + SIX + FIVE, 6, 5);
        read(LONGEST, 6, 5);
    }

    // ---- Promise 1

    @Says(of = 1, value = "No TOWER.")
    private static void aNewObjectHasNoTower() {
        TowerBraid x = new TowerBraid();
        for (int what = 0; what < 10; what++) {
            due("count " + what, 0, x.count(what));
        }
        due("climb", BAD, x.climb(0));
        due("strand", BAD, x.strand(0, 0));
        due("climber", BAD, x.climber(0, 0));
        due("borne", BAD, x.borne(0, 0));
        due("needed", BAD, x.needed(0));
        due("comes", BAD, x.comes(0, 1));
        due("storm", BAD, x.storm(0, 0, 0));
        due("kind", BAD, x.kind(0));
        due("as", BAD, x.as(0, 0));
        due("ask", BAD, x.ask(0, 0));
        due("undo", STATE, x.undo());
        due("trace", NONE, x.trace(0));
        due("fault", 0, x.fault());
        due("status", 0, x.status());
    }

    // ---- Promise 6

    @Says(of = 6, value = "A byte (0 to 255) comes behind the tape: how many it has.")
    private static void bytesAre0To255() {
        for (int first = 0; first < 256; first += 64) {
            TowerBraid x = new TowerBraid();
            for (int i = 0; i < 64; i++) {
                due("byte " + (first + i), i + 1, x.feed(first + i));
            }
        }
    }

    @Says(of = 6, value = "comes behind the tape")
    private static void bytesComeBehindOneAnother() {
        TowerBraid x = new TowerBraid();
        due("t", 1, x.feed('t'));
        due("1", 2, x.feed('1'));
        due("2", 3, x.feed('2'));
        due(",", 4, x.feed(','));
        due("3", 5, x.feed('3'));
        due(";", 6, x.feed(';'));
        due("tower", 0, x.tower());
        due("high", 12, x.count(4));
        due("long", 3, x.count(5));
    }

    @Says(of = 6, value = "BAD; FULL.")
    private static void noByteIsBad() {
        TowerBraid x = new TowerBraid();
        each("byte", BAD, x::feed, -1, 256, 't' + 256, 't' - 256, MIN, MAX);
        due("none came", 0, x.count(9));
        due("the first", 1, x.feed('t'));
    }

    @Says(of = 6, value = "BAD; FULL.")
    private static void badIsAheadOfAFullTape() {
        TowerBraid x = new TowerBraid();
        for (int i = 0; i < 120; i++) {
            x.feed('x');
        }
        each("byte", BAD, x::feed, -1, 256, MIN, MAX);
        each("byte", FULL, x::feed, 0, 255);
    }

    @Says(of = 6, value = "FULL.")
    private static void aFullTapeStaysAsItIs() {
        TowerBraid x = fed(new TowerBraid(), LONGEST);
        for (int i = LONGEST.length(); i < 120; i++) {
            x.feed('x');
        }
        due("one more", FULL, x.feed('t'));
        due("nothing is lost", -1000181, x.tower());
        due("x is none", 1, x.fault());
    }

    // ---- Promise 7

    @Says(of = 7, value = "The tape, empty then, is read: how many CLIMBERS there are.")
    private static void theTapeIsEmptyThen() {
        TowerBraid x = told("t1,1;h1;c1,1,0;");
        due("empty", 0, x.count(9));
        due("its first byte", 1, x.feed('t'));
        due("read again", -1000101, x.tower());
    }

    @Says(of = 7, value = "The tape, empty then, is read: how many CLIMBERS there are.")
    private static void anEmptyTapeIsAFaultAt0() {
        TowerBraid x = new TowerBraid();
        due("empty", -1000100, x.tower());
        due("its end", 1, x.fault());
        fed(x, "t1,1;c1,1,0;");
        due("one", 1, x.tower());
        due("empty again", -1000100, x.tower());
        due("one yet", 1, x.count(2));
    }

    @Says(of = 7, value = "-1000100 less the place of a FAULT")
    private static void thePlaceOfAFaultIsTold() {
        for (int place = 5; place <= 23; place += 3) {
            fault("t1,1;" + SIX.substring(0, place - 5) + "!", place, 1);
        }
        fault("!", 0, 1);
        fault(LONGEST + "!", 81, 1);
    }

    @Says(of = 7, value = "all stays, but the tape is empty then, and fault() tells this one.")
    private static void allStaysByAFault() {
        TowerBraid x = told("t2,9;h50;s3;c40,1,0;");
        x.plait(2);
        x.climb(0);
        x.plait(1);
        x.climb(0);
        x.day();
        x.peg(1);
        fed(x, "t3,4;s9;c7,2,1;!");
        due("a fault", -1000115, x.tower());
        int[] counts = {0, 2, 1, 1, 2, 10, 1, 1, 6, 0};
        for (int what = 0; what < 10; what++) {
            due("count " + what, counts[what], x.count(what));
        }
        due("bears", 50, x.strand(0, 0));
        due("worn", 4, x.strand(0, 1));
        due("gone", 1, x.strand(1, 2));
        due("fell", 1, x.climber(0, 3));
        due("weight", 40, x.climber(0, 0));
        due("its latest act is undone", 5, x.undo());
        due("no peg", 0, x.count(6));
    }

    @Says(of = 7, value = "all stays, but the tape is empty then, and fault() tells this one.")
    private static void noTowerStaysByAFault() {
        TowerBraid x = fed(new TowerBraid(), "t3,4;h1;c1,1,0;!");
        due("a fault", -1000115, x.tower());
        due("no tower", STATE, x.never());
        due("no strands", 0, x.count(1));
        due("no climber", BAD, x.climber(0, 0));
    }

    @Says(of = 7, value = "the tape is empty then")
    private static void theTapeIsEmptyBehindAFault() {
        TowerBraid x = fed(new TowerBraid(), "t1,1;!");
        due("a fault", -1000105, x.tower());
        due("empty", 0, x.count(9));
        fed(x, "t1,1;h1;");
        due("all of the next", 0, x.tower());
        due("strand", 1, x.count(1));
    }

    // ---- Promise 8

    @Says(of = 8, value = "The number of the latest FAULT; 0 before one.")
    private static void fault0BeforeOne() {
        TowerBraid x = new TowerBraid();
        due("new", 0, x.fault());
        fed(x, "t1,1;");
        due("fed", 0, x.fault());
        x.tower();
        due("without one", 0, x.fault());
    }

    @Says(of = 8, value = "The number of the latest FAULT; 0 before one.")
    private static void theLatestFaultIsTold() {
        TowerBraid x = new TowerBraid();
        fed(x, "t1,1;" + SIX + "h").tower();
        due("3", 3, x.fault());
        fed(x, "t0").tower();
        due("2", 2, x.fault());
        fed(x, "t").tower();
        due("1", 1, x.fault());
        fed(x, "t1,0").tower();
        due("2 again", 2, x.fault());
        fed(x, "t1,1;");
        due("2 while fed", 2, x.fault());
        due("without one", 0, x.tower());
        due("the latest yet", 2, x.fault());
    }
}
