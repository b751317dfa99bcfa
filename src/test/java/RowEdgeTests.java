/** The sentences about ROWS that name an edge, each by a test of its own. */
final class RowEdgeTests extends Edges {
    /** Climber 0 makes 14 by three of six silks; nobody makes anything else by three. */
    private static final String SILKS = "t1,1;s99;s99;s99;s99;s99;s99;c40,1,0;";
    /** Climber c makes 11 + c by the one strand: so an item is read as a strain. */
    private static final String READERS = "t1,1;s99;c11,1,0;c12,1,0;c13,1,0;c14,1,0;c15,1,0;";
    private static final int READ = 7;
    private static final int[] NO_ROWS = {-1, 8, 9, 99, MIN, MAX};

    private RowEdgeTests() {
    }

    public static void main(String[] args) throws IllegalAccessException {
        run(RowEdgeTests.class, args);
    }

    private static TowerBraid rowed(int lane, int n) {
        TowerBraid x = new TowerBraid();
        due("row 0", n, x.row(0, lane, n));
        return x;
    }

    // ---- Terms

    @Says("1 ROWS 0 .. 7 are missing (at first)")
    private static void rowsAreMissingAtFirst() {
        for (int row = 0; row < 8; row++) {
            int r = row;
            TowerBraid x = new TowerBraid();
            due("set in row " + r, NULL, x.set(r, 0, 0));
            due("drop of row " + r, NULL, x.drop(r));
            due("copy of row " + r, NULL, x.copy(r, 0, r, 0, 0));
            x.row((r + 1) % 8, 0, 1);
            due("copy from row " + r, NULL, x.copy(r, 0, (r + 1) % 8, 0, 0));
            due("copy to row " + r, NULL, x.copy((r + 1) % 8, 0, r, 0, 0));
            due("set in row " + r + " yet", NULL, x.set(r, 0, 0));
        }
    }

    @Says("1 ROWS 0 .. 7 are missing (at first)")
    private static void thereAreEightRows() {
        TowerBraid x = new TowerBraid();
        for (int row = 0; row < 8; row++) {
            due("row " + row, row, x.row(row, row % 3, row));
            due("how many", row + 1, x.count(0));
        }
        for (int row = 0; row < 8; row++) {
            due("drop " + row, row, x.drop(row));
            due("how many are left", 7 - row, x.count(0));
        }
    }

    @Says("LANE (0 bytes, 1 shorts, 2 ints)")
    private static void lanesHoldBytesShortsInts() {
        int[] held = {0x78, 0x5678, 0x12345678};
        for (int lane = 0; lane < 3; lane++) {
            due("lane " + lane, held[lane], rowed(lane, 1).set(0, 0, 0x12345678));
        }
    }

    @Says("0 to 40 ITEMS")
    private static void aRowMayHaveNoItems() {
        for (int lane = 0; lane < 3; lane++) {
            TowerBraid x = rowed(lane, 0);
            due("how many rows", 1, x.count(0));
            due("no place in it", PLACE, x.set(0, 0, 0));
            due("none of it", 0, x.copy(0, 0, 0, 0, 0));
            due("dropped", 0, x.drop(0));
        }
    }

    @Says("0 to 40 ITEMS")
    private static void aRowMayHave40Items() {
        for (int lane = 0; lane < 3; lane++) {
            TowerBraid x = rowed(lane, 40);
            due("its last place", 7, x.set(0, 39, 7));
            due("none behind it", PLACE, x.set(0, 40, 7));
            due("all", 40, x.copy(0, 0, 0, 0, 40));
            due("dropped", 40, x.drop(0));
        }
    }

    @Says("0 at first.")
    private static void itemsOfANewRowAre0() {
        for (int lane = 0; lane < 3; lane++) {
            TowerBraid x = readers(lane);
            x.row(0, lane, 40);
            readsAll(x, 0, new int[40]);
        }
    }

    @Says("0 at first.")
    private static void itemsAre0AgainInPlaceOfOthers() {
        for (int lane = 0; lane < 3; lane++) {
            TowerBraid x = filled(lane);
            due("anew", 40, x.row(3, lane, 40));
            readsAll(x, 3, new int[40]);
        }
    }

    @Says("0 at first.")
    private static void itemsAre0AgainBehindADrop() {
        for (int lane = 0; lane < 3; lane++) {
            TowerBraid x = filled(lane);
            due("dropped", 40, x.drop(3));
            due("anew", 40, x.row(3, lane, 40));
            readsAll(x, 3, new int[40]);
        }
    }

    @Says("0 at first.")
    private static void itemsAre0BehindAShorterRow() {
        for (int n : new int[] {0, 1, 39}) {
            TowerBraid x = filled(2);
            due("shorter", n, x.row(3, 2, n));
            due("long again", 40, x.row(3, 2, 40));
            readsAll(x, 3, new int[40]);
        }
    }

    @Says("0 at first.")
    private static void itemsAre0OfAnotherLane() {
        for (int lane = 0; lane < 3; lane++) {
            TowerBraid x = filled(lane);
            int other = (lane + 1) % 3;
            due("of another lane", 40, x.row(3, other, 40));
            x.row(READ, other, 2);
            x.set(READ, 0, 1);
            readsAll(x, 3, new int[40]);
        }
    }

    /** A row beside the others in which an item is read. */
    private static TowerBraid readers(int lane) {
        TowerBraid x = told(READERS);
        x.row(READ, lane, 2);
        x.set(READ, 0, 1);
        return x;
    }

    /** Row 3 of 40, 11 to 15 again and again. */
    private static TowerBraid filled(int lane) {
        TowerBraid x = readers(lane);
        int[] items = new int[40];
        x.row(3, lane, 40);
        for (int i = 0; i < 40; i++) {
            items[i] = 11 + i % 5;
            due("item " + i, items[i], x.set(3, i, items[i]));
        }
        readsAll(x, 3, items);
        return x;
    }

    /** Nobody makes a STRAIN of 0. */
    private static void readsAll(TowerBraid x, int row, int[] items) {
        for (int i = 0; i < items.length; i++) {
            due("item " + i + " is copied", 1, x.copy(row, i, READ, 1, 1));
            due("item " + i + " is " + items[i], items[i] == 0 ? 0 : 1 << items[i] - 11, x.climbers(READ, 0, 1));
        }
    }

    @Says("4 SIZE (fewer than none)")
    private static void fewerThanNoneIsASize() {
        each("row of fewer", SIZE, n -> new TowerBraid().row(0, 0, n), -1, -2, -40, MIN);
    }

    @Says("2 PLACE (no such place of a ROW)")
    private static void aPlaceIsOneOfTheRow() {
        for (int n : new int[] {1, 2, 39, 40}) {
            TowerBraid x = rowed(2, n);
            due("first of " + n, 5, x.set(0, 0, 5));
            due("last of " + n, 6, x.set(0, n - 1, 6));
            each("no place of " + n, PLACE, i -> x.set(0, i, 5), -1, n, n + 1, MIN, MAX);
        }
    }

    @Says("1 NULL (a ROW that is missing)")
    private static void aRowIsMissingBehindADrop() {
        TowerBraid x = rowed(0, 3);
        x.row(1, 0, 3);
        x.drop(0);
        due("set", NULL, x.set(0, 0, 1));
        due("copy from it", NULL, x.copy(0, 0, 1, 0, 1));
        due("copy to it", NULL, x.copy(1, 0, 0, 0, 1));
        due("the other is not", 1, x.set(1, 0, 1));
    }

    @Says("5 STORE (ROWS of two LANES)")
    private static void rowsOfTwoLanesAreAStore() {
        for (int a = 0; a < 3; a++) {
            for (int b = 0; b < 3; b++) {
                TowerBraid x = rowed(a, 3);
                x.row(1, b, 3);
                due("from lane " + a + " to lane " + b, a == b ? 2 : STORE, x.copy(0, 0, 1, 1, 2));
                due("none from lane " + a + " to lane " + b, a == b ? 0 : STORE, x.copy(0, 0, 1, 1, 0));
            }
        }
    }

    // ---- Promise 2

    @Says(of = 2, value = "A ROW of a LANE with n ITEMS, in place of what is there: n.")
    private static void rowTellsHowManyItems() {
        for (int n = 0; n <= 40; n++) {
            due("row of " + n, n, new TowerBraid().row(n % 8, n % 3, n));
        }
    }

    @Says(of = 2, value = "in place of what is there")
    private static void aRowStandsInPlaceOfTheOneBefore() {
        TowerBraid x = rowed(1, 5);
        due("longer, of bytes", 6, x.row(0, 0, 6));
        due("one row yet", 1, x.count(0));
        due("its last place", -1, x.set(0, 5, 255));
        due("shorter, of ints", 2, x.row(0, 2, 2));
        due("its last place now", 255, x.set(0, 1, 255));
        due("no place now", PLACE, x.set(0, 2, 255));
        due("how many it had", 2, x.drop(0));
        due("none is left", 0, x.count(0));
    }

    @Says(of = 2, value = "BAD: ROW, LANE, n above 40; SIZE.")
    private static void rowIsBadByItsRow() {
        TowerBraid x = new TowerBraid();
        each("row", BAD, row -> x.row(row, 0, 1), NO_ROWS);
        due("none is made", 0, x.count(0));
    }

    @Says(of = 2, value = "BAD: ROW, LANE, n above 40; SIZE.")
    private static void rowIsBadByItsLane() {
        TowerBraid x = new TowerBraid();
        each("lane", BAD, lane -> x.row(0, lane, 1), -1, 3, 4, MIN, MAX);
        due("none is made", 0, x.count(0));
    }

    @Says(of = 2, value = "BAD: ROW, LANE, n above 40; SIZE.")
    private static void rowIsBadByMoreThan40Items() {
        TowerBraid x = new TowerBraid();
        for (int lane = 0; lane < 3; lane++) {
            int l = lane;
            each("lane " + l + ", n", BAD, n -> x.row(0, l, n), 41, 42, 256, 65536, MAX);
        }
        due("none is made", 0, x.count(0));
    }

    @Says(of = 2, value = "BAD: ROW, LANE, n above 40; SIZE.")
    private static void rowIsBadAheadOfItsSize() {
        TowerBraid x = new TowerBraid();
        each("row of -1", BAD, row -> x.row(row, 0, -1), NO_ROWS);
        each("lane of -1", BAD, lane -> x.row(0, lane, -1), -1, 3, MIN, MAX);
    }

    @Says(of = 2, value = "SIZE.")
    private static void aSizeLeavesTheRowThatIsThere() {
        TowerBraid x = rowed(0, 3);
        due("fewer than none", SIZE, x.row(0, 2, -1));
        due("too many", BAD, x.row(0, 2, 41));
        due("a byte yet", -128, x.set(0, 2, 128));
        due("three yet", 3, x.drop(0));
    }

    // ---- Promise 3

    @Says(of = 3, value = "its lowest bits, as many as the LANE has (read with their sign)")
    private static void bytesWrapAround() {
        TowerBraid x = rowed(0, 1);
        int[] v = {0, 1, 127, 128, 129, 255, 256, 257, -1, -128, -129, -256, 65535, MAX, MIN};
        int[] becomes = {0, 1, 127, -128, -127, -1, 0, 1, -1, -128, 127, 0, -1, -1, 0};
        for (int i = 0; i < v.length; i++) {
            due("byte " + v[i], becomes[i], x.set(0, 0, v[i]));
        }
    }

    @Says(of = 3, value = "its lowest bits, as many as the LANE has (read with their sign)")
    private static void shortsWrapAround() {
        TowerBraid x = rowed(1, 1);
        int[] v = {0, 128, 255, 32767, 32768, 65535, 65536, -1, -32768, -32769, -65536, MAX, MIN};
        int[] becomes = {0, 128, 255, 32767, -32768, -1, 0, -1, -32768, 32767, 0, -1, 0};
        for (int i = 0; i < v.length; i++) {
            due("short " + v[i], becomes[i], x.set(0, 0, v[i]));
        }
    }

    @Says(of = 3, value = "its lowest bits, as many as the LANE has (read with their sign)")
    private static void intsAreHeldWhole() {
        TowerBraid x = rowed(2, 1);
        for (int v : new int[] {0, -1, 127, 128, 32768, 65536, -32769, 1 << 30, MAX, MIN, MAX - 1, MIN + 1}) {
            due("int", v, x.set(0, 0, v));
        }
    }

    @Says(of = 3, value = "ITEM i becomes v")
    private static void anItemBecomesItsLowestBits() {
        for (int lane = 0; lane < 3; lane++) {
            TowerBraid x = told(SILKS);
            x.row(0, lane, 4);
            int beyond = lane == 0 ? 256 : lane == 1 ? 65536 : 0;
            due("a set", 7, x.set(0, 2, beyond + 7));
            due("a strain", 14, x.set(0, 3, 14 - beyond));
            due("both are kept so", 1, x.climbers(0, 2, 1));
            due("those ahead stay", BAD, x.climbers(0, 0, 1));
            due("other than 14", 13, x.set(0, 3, 13));
            due("the later one is kept", 0, x.climbers(0, 2, 1));
        }
    }

    @Says(of = 3, value = "ITEM i becomes v")
    private static void noOtherItemBecomesIt() {
        for (int lane = 0; lane < 3; lane++) {
            for (int i = 0; i < 6; i++) {
                TowerBraid x = copied(lane);
                int[] items = FROM.clone();
                items[i] = 13;
                due("item " + i, 13, x.set(0, i, 13));
                readsAll(x, 0, items);
                readsAll(x, 1, TO);
            }
        }
    }

    @Says(of = 3, value = "BAD: ROW; NULL; PLACE.")
    private static void setIsBadByItsRow() {
        TowerBraid x = rowed(0, 1);
        each("row", BAD, row -> x.set(row, 0, 1), NO_ROWS);
        each("row ahead of place", BAD, row -> x.set(row, -1, 1), NO_ROWS);
    }

    @Says(of = 3, value = "BAD: ROW; NULL; PLACE.")
    private static void setIsNullAheadOfPlace() {
        TowerBraid x = new TowerBraid();
        each("place", NULL, i -> x.set(5, i, 1), 0, -1, 40, MIN, MAX);
        x.row(5, 0, 1);
        x.drop(5);
        each("place behind a drop", NULL, i -> x.set(5, i, 1), 0, -1, 40, MIN, MAX);
    }

    @Says(of = 3, value = "BAD: ROW; NULL; PLACE.")
    private static void setInNoPlaceChangesNothing() {
        TowerBraid x = told(SILKS);
        x.row(0, 2, 2);
        x.set(0, 0, 7);
        x.set(0, 1, 14);
        each("place", PLACE, i -> x.set(0, i, 1), -1, 2, 3, 40, MIN, MAX);
        due("both stay", 1, x.climbers(0, 0, 1));
    }

    // ---- Promise 4

    private static final int[] FROM = {11, 12, 13, 14, 15, 11};
    private static final int[] TO = {15, 13, 11, 14, 12, 15};

    /** Rows 0 and 1 of six bytes; row 2 of six shorts; row 3 is missing. */
    private static TowerBraid copied() {
        return copied(0);
    }

    private static TowerBraid copied(int lane) {
        TowerBraid x = readers(lane);
        x.row(0, lane, 6);
        x.row(1, lane, 6);
        x.row(2, (lane + 1) % 3, 6);
        for (int i = 0; i < 6; i++) {
            x.set(0, i, FROM[i]);
            x.set(1, i, TO[i]);
        }
        return x;
    }

    private static void staysAsItWas(TowerBraid x) {
        readsAll(x, 0, FROM);
        readsAll(x, 1, TO);
    }

    @Says(of = 4, value = "n ITEMS of a from i on come to b from j on, as they were ahead: n.")
    private static void copyBringsThoseAndNoOthers() {
        for (int n = 0; n <= 6; n++) {
            for (int i = 0; i <= 6 - n; i++) {
                for (int j = 0; j <= 6 - n; j++) {
                    TowerBraid x = copied();
                    int[] to = TO.clone();
                    System.arraycopy(FROM, i, to, j, n);
                    due("copy from " + i + " to " + j + " of " + n, n, x.copy(0, i, 1, j, n));
                    readsAll(x, 0, FROM);
                    readsAll(x, 1, to);
                }
            }
        }
    }

    @Says(of = 4, value = "as they were ahead")
    private static void copyWithinARow() {
        for (int n = 0; n <= 6; n++) {
            for (int i = 0; i <= 6 - n; i++) {
                for (int j = 0; j <= 6 - n; j++) {
                    TowerBraid x = copied();
                    int[] to = FROM.clone();
                    System.arraycopy(FROM, i, to, j, n);
                    due("copy within, from " + i + " to " + j + " of " + n, n, x.copy(0, i, 0, j, n));
                    readsAll(x, 0, to);
                }
            }
        }
    }

    @Says(of = 4, value = "n ITEMS of a from i on come to b from j on, as they were ahead: n.")
    private static void copyOfEachLane() {
        for (int lane = 0; lane < 3; lane++) {
            TowerBraid x = copied(lane);
            due("four, by one", 4, x.copy(0, 0, 0, 1, 4));
            readsAll(x, 0, new int[] {11, 11, 12, 13, 14, 11});
            due("four, back", 4, x.copy(0, 2, 0, 0, 4));
            readsAll(x, 0, new int[] {12, 13, 14, 11, 14, 11});
            due("all to the other", 6, x.copy(0, 0, 1, 0, 6));
            readsAll(x, 1, new int[] {12, 13, 14, 11, 14, 11});
        }
    }

    @Says(of = 4, value = "n ITEMS of a from i on come to b from j on, as they were ahead: n.")
    private static void copyOfNoneOfNone() {
        TowerBraid x = new TowerBraid();
        x.row(0, 0, 0);
        x.row(1, 0, 0);
        due("within it", 0, x.copy(0, 0, 0, 0, 0));
        due("to the other", 0, x.copy(0, 0, 1, 0, 0));
        due("one", PLACE, x.copy(0, 0, 1, 0, 1));
    }

    @Says(of = 4, value = "n ITEMS of a from i on come to b from j on, as they were ahead: n.")
    private static void copyOf40() {
        TowerBraid x = filled(1);
        x.row(4, 1, 40);
        due("all", 40, x.copy(3, 0, 4, 0, 40));
        due("none more", PLACE, x.copy(3, 0, 4, 0, 41));
        int[] items = new int[40];
        for (int i = 0; i < 40; i++) {
            items[i] = 11 + i % 5;
        }
        readsAll(x, 4, items);
    }

    @Says(of = 4, value = "BAD: ROWS; NULL; STORE; PLACE (i, j, n below 0, or beyond an end).")
    private static void copyIsBadByItsRows() {
        TowerBraid x = copied();
        each("from row", BAD, a -> x.copy(a, 0, 1, 0, 1), NO_ROWS);
        each("to row", BAD, b -> x.copy(0, 0, b, 0, 1), NO_ROWS);
        each("from row to a missing one", BAD, a -> x.copy(a, 0, 3, 0, 1), NO_ROWS);
        each("from a missing one to row", BAD, b -> x.copy(3, 0, b, 0, 1), NO_ROWS);
        each("from no place to row", BAD, b -> x.copy(0, -1, b, 0, 1), NO_ROWS);
    }

    @Says(of = 4, value = "BAD: ROWS; NULL; STORE; PLACE (i, j, n below 0, or beyond an end).")
    private static void copyIsNullAheadOfStoreAndPlace() {
        TowerBraid x = copied();
        due("from a missing one", NULL, x.copy(3, 0, 0, 0, 1));
        due("to a missing one", NULL, x.copy(0, 0, 3, 0, 1));
        due("both are missing", NULL, x.copy(3, 0, 4, 0, 1));
        due("none from a missing one", NULL, x.copy(3, 0, 0, 0, 0));
        due("from shorts to a missing one", NULL, x.copy(2, 0, 3, 0, 1));
        due("from a missing one to shorts", NULL, x.copy(3, 0, 2, 0, 1));
        due("no place, to a missing one", NULL, x.copy(0, -1, 3, 0, 1));
        due("no place, from a missing one", NULL, x.copy(3, 0, 0, -1, 1));
        due("fewer than none, from a missing one", NULL, x.copy(3, 0, 0, 0, -1));
    }

    @Says(of = 4, value = "BAD: ROWS; NULL; STORE; PLACE (i, j, n below 0, or beyond an end).")
    private static void copyIsStoreAheadOfPlace() {
        TowerBraid x = copied();
        due("i below 0", STORE, x.copy(0, -1, 2, 0, 1));
        due("j below 0", STORE, x.copy(0, 0, 2, -1, 1));
        due("n below 0", STORE, x.copy(0, 0, 2, 0, -1));
        due("beyond the first's end", STORE, x.copy(0, 6, 2, 0, 1));
        due("beyond the second's end", STORE, x.copy(0, 0, 2, 6, 1));
    }

    @Says(of = 4, value = "PLACE (i, j, n below 0, or beyond an end).")
    private static void copyFromBelow0IsAPlace() {
        TowerBraid x = copied();
        each("i", PLACE, i -> x.copy(0, i, 1, 0, 1), -1, -6, MIN);
        each("i of none", PLACE, i -> x.copy(0, i, 1, 0, 0), -1, -6, MIN);
        staysAsItWas(x);
    }

    @Says(of = 4, value = "PLACE (i, j, n below 0, or beyond an end).")
    private static void copyToBelow0IsAPlace() {
        TowerBraid x = copied();
        each("j", PLACE, j -> x.copy(0, 0, 1, j, 1), -1, -6, MIN);
        each("j of none", PLACE, j -> x.copy(0, 0, 1, j, 0), -1, -6, MIN);
        staysAsItWas(x);
    }

    @Says(of = 4, value = "PLACE (i, j, n below 0, or beyond an end).")
    private static void copyOfFewerThanNoneIsAPlace() {
        TowerBraid x = copied();
        each("n", PLACE, n -> x.copy(0, 0, 1, 0, n), -1, -6, MIN);
        each("n from the end", PLACE, n -> x.copy(0, 6, 1, 6, n), -1, -6, MIN);
        each("n within", PLACE, n -> x.copy(0, 6, 0, 3, n), -1, -3, MIN);
        staysAsItWas(x);
    }

    @Says(of = 4, value = "PLACE (i, j, n below 0, or beyond an end).")
    private static void copyBeyondTheFirstsEndIsAPlace() {
        TowerBraid x = copied();
        x.row(1, 0, 40);
        due("up to its end", 6, x.copy(0, 0, 1, 0, 6));
        due("its last", 1, x.copy(0, 5, 1, 0, 1));
        due("none at its end", 0, x.copy(0, 6, 1, 0, 0));
        due("seven", PLACE, x.copy(0, 0, 1, 0, 7));
        due("two from the last", PLACE, x.copy(0, 5, 1, 0, 2));
        due("one from the end", PLACE, x.copy(0, 6, 1, 0, 1));
        due("none beyond the end", PLACE, x.copy(0, 7, 1, 0, 0));
        due("none far beyond the end", PLACE, x.copy(0, MAX, 1, 0, 0));
    }

    @Says(of = 4, value = "PLACE (i, j, n below 0, or beyond an end).")
    private static void copyBeyondTheSecondsEndIsAPlace() {
        TowerBraid x = copied();
        x.row(0, 0, 40);
        due("up to its end", 6, x.copy(0, 0, 1, 0, 6));
        due("its last", 1, x.copy(0, 0, 1, 5, 1));
        due("none at its end", 0, x.copy(0, 0, 1, 6, 0));
        due("seven", PLACE, x.copy(0, 0, 1, 0, 7));
        due("two to the last", PLACE, x.copy(0, 0, 1, 5, 2));
        due("one to the end", PLACE, x.copy(0, 0, 1, 6, 1));
        due("none beyond the end", PLACE, x.copy(0, 0, 1, 7, 0));
        due("none far beyond the end", PLACE, x.copy(0, 0, 1, MAX, 0));
    }

    @Says(of = 4, value = "PLACE (i, j, n below 0, or beyond an end).")
    private static void copyThatWrapsAroundIsAPlace() {
        TowerBraid x = copied();
        each("n from 1", PLACE, n -> x.copy(0, 1, 1, 1, n), MAX, MAX - 1, MIN);
        each("i of 1", PLACE, i -> x.copy(0, i, 1, 0, 1), MAX, MAX - 1);
        each("j of 1", PLACE, j -> x.copy(0, 0, 1, j, 1), MAX, MAX - 1);
        each("i of most", PLACE, i -> x.copy(0, i, 1, 0, MAX), 1, 2, MAX, MIN);
        each("j of most", PLACE, j -> x.copy(0, 0, 1, j, MAX), 1, 2, MAX, MIN);
        each("all", PLACE, all -> x.copy(0, all, 1, all, all), MAX, MIN);
        staysAsItWas(x);
    }

    // ---- Promise 5

    @Says(of = 5, value = "A ROW is missing from now on: how many ITEMS it had.")
    private static void dropTellsHowMany() {
        for (int n : new int[] {0, 1, 17, 39, 40}) {
            TowerBraid x = rowed(n % 3, n);
            due("drop", n, x.drop(0));
            due("no row is left", 0, x.count(0));
        }
    }

    @Says(of = 5, value = "A ROW is missing from now on")
    private static void dropLeavesOtherRows() {
        TowerBraid x = rowed(0, 2);
        x.row(7, 2, 3);
        due("drop", 3, x.drop(7));
        due("it is missing", NULL, x.set(7, 0, 1));
        due("the other is there", 1, x.set(0, 0, 1));
        due("it comes anew", 4, x.row(7, 1, 4));
        due("two rows", 2, x.count(0));
    }

    @Says(of = 5, value = "BAD; NULL.")
    private static void dropIsBadByItsRow() {
        TowerBraid x = rowed(0, 2);
        each("row", BAD, x::drop, NO_ROWS);
        due("it is there yet", 1, x.count(0));
    }

    @Says(of = 5, value = "BAD; NULL.")
    private static void dropOfAMissingRowIsNull() {
        TowerBraid x = rowed(0, 2);
        due("another", NULL, x.drop(1));
        due("once", 2, x.drop(0));
        due("twice", NULL, x.drop(0));
    }
}
