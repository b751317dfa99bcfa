/** Each promise of the document by runs whose answers are worked out by hand from its words. */
final class PromiseTests {
    private static final int NONE = TowerBraid.NONE;
    private static final int BAD = TowerBraid.BAD;
    private static final int STATE = TowerBraid.STATE;
    private static final int FULL = TowerBraid.FULL;
    private static final int NULL = -1000011;
    private static final int PLACE = -1000012;
    private static final int KIND = -1000013;
    private static final int SIZE = -1000014;
    private static final int STORE = -1000015;
    private static final int MIN = Integer.MIN_VALUE;
    private static final int MAX = Integer.MAX_VALUE;

    /** Strands: hair 30, silk 12, grey 25, rope 18, twine 15, hair 9. */
    private static final String STRANDS = "h30;s12;g25;r18;w15;h9;";
    private static final String CLIMBERS = "c40,1,0;c55,3,2;c20,2,1;c90,9,4;";
    private static final String USUAL = "t20,20;" + STRANDS + CLIMBERS;

    private PromiseTests() {
    }

    public static void main(String[] args) {
        newObject();
        rows();
        sets();
        copies();
        drops();
        feeds();
        towers();
        towerBeginsAnew();
        faults();
        plaits();
        climbs();
        climbsThatBreak();
        climbsByKind();
        days();
        cuts();
        pegs();
        undoes();
        strands();
        climbers();
        dues();
        bornes();
        plans();
        plansAndLength();
        plansBehindOneAnother();
        nevers();
        neededs();
        strongests();
        cutMosts();
        comes();
        climbeds();
        climbersByStrains();
        storms();
        images();
        restores();
        kinds();
        kindsTakenAs();
        sizes();
        marks();
        traces();
        counts();
        statuses();
        Checks.finish();
    }

    private static void due(String call, long want, long got) {
        Checks.due(call, want, got);
    }

    private static TowerBraid fed(TowerBraid x, String text) {
        for (int i = 0; i < text.length(); i++) {
            x.feed(text.charAt(i));
        }
        return x;
    }

    private static TowerBraid told(String text) {
        TowerBraid x = fed(new TowerBraid(), text);
        Checks.isTrue(text + " is read", x.tower() >= 0);
        return x;
    }

    private static void strandIs(String when, TowerBraid x, int s, int worn, int gone, int plaited) {
        due(when + ", worn " + s, worn, x.strand(s, 1));
        due(when + ", gone " + s, gone, x.strand(s, 2));
        due(when + ", plaited " + s, plaited, x.strand(s, 3));
    }

    // Promise 1
    private static void newObject() {
        TowerBraid x = new TowerBraid();
        for (int what = 0; what <= 9; what++) {
            due("new count " + what, 0, x.count(what));
        }
        due("new status", 0, x.status());
        due("new fault", 0, x.fault());
        due("new trace", NONE, x.trace(0));
        due("new undo", STATE, x.undo());
        due("new restore 0", STATE, x.restore(0));
        due("new restore 1", STATE, x.restore(1));
        due("new image", STATE, x.image(0));
        due("new image 2", BAD, x.image(2));
        due("new day", STATE, x.day());
        due("new never", STATE, x.never());
        due("new cutMost", STATE, x.cutMost());
        due("new plait, ahead of BAD", STATE, x.plait(-1));
        due("new cut, ahead of BAD", STATE, x.cut(0));
        due("new peg, ahead of BAD", STATE, x.peg(2));
        due("new due, ahead of BAD", STATE, x.due(-1));
        due("new plan, ahead of BAD", STATE, x.plan(0, 9));
        due("new strongest, ahead of BAD", STATE, x.strongest(3));
        due("new climbed, ahead of BAD", STATE, x.climbed(100));
        due("new climbers, ahead of BAD", STATE, x.climbers(9, 0, 0));
        due("new climb", BAD, x.climb(0));
        due("new strand", BAD, x.strand(0, 0));
        due("new climber", BAD, x.climber(0, 0));
        due("new borne", BAD, x.borne(0, 0));
        due("new needed", BAD, x.needed(0));
        due("new comes", BAD, x.comes(0, 1));
        due("new storm", BAD, x.storm(0, 1, 0));
        due("new kind", BAD, x.kind(0));
        due("new as", BAD, x.as(0, 0));
        due("new ask", BAD, x.ask(0, 0));
    }

    // Promise 2
    private static void rows() {
        TowerBraid x = new TowerBraid();
        due("row of 40", 40, x.row(7, 2, 40));
        due("its last", 5, x.set(7, 39, 5));
        due("row of 0", 0, x.row(0, 0, 0));
        due("nothing in it", PLACE, x.set(0, 0, 1));
        due("rows", 2, x.count(0));
        due("row 8", BAD, x.row(8, 0, 1));
        due("row -1", BAD, x.row(-1, 0, 1));
        due("lane 3", BAD, x.row(0, 3, 1));
        due("lane -1", BAD, x.row(0, -1, 1));
        due("41 items", BAD, x.row(0, 0, 41));
        due("bad ahead of size", BAD, x.row(8, 0, -1));
        due("bad lane ahead of size", BAD, x.row(0, 3, -1));
        due("fewer than none", SIZE, x.row(7, 0, -1));
        due("fewest", SIZE, x.row(7, 0, MIN));
        due("row 7 stays", 300, x.set(7, 39, 300));
        due("in place of what is there", 3, x.row(7, 0, 3));
        due("shorter now", PLACE, x.set(7, 3, 1));
        due("a byte now", 44, x.set(7, 2, 300));
        x.row(7, 2, 3);
        x.row(6, 2, 3);
        x.set(6, 0, 9);
        TowerBraid y = told(USUAL);
        y.row(0, 2, 2);
        y.set(0, 0, 13);
        y.set(0, 1, 14);
        due("a strain", 1, y.climbers(0, 0, 1));
        due("anew", 2, y.row(0, 2, 2));
        due("0 at first again", BAD, y.climbers(0, 0, 1));
    }

    // Promise 3
    private static void sets() {
        TowerBraid x = new TowerBraid();
        due("missing", NULL, x.set(0, 0, 1));
        x.row(0, 0, 2);
        x.row(1, 1, 2);
        x.row(2, 2, 2);
        due("byte 127", 127, x.set(0, 0, 127));
        due("byte 128", -128, x.set(0, 0, 128));
        due("byte -129", 127, x.set(0, 0, -129));
        due("byte 256", 0, x.set(0, 0, 256));
        due("byte of most", -1, x.set(0, 0, MAX));
        due("short 32767", 32767, x.set(1, 1, 32767));
        due("short 32768", -32768, x.set(1, 1, 32768));
        due("short of least", 0, x.set(1, 1, MIN));
        due("int of most", MAX, x.set(2, 0, MAX));
        due("int of least", MIN, x.set(2, 0, MIN));
        due("place 2", PLACE, x.set(0, 2, 1));
        due("place -1", PLACE, x.set(0, -1, 1));
        due("place of most", PLACE, x.set(0, MAX, 1));
        due("place of least", PLACE, x.set(0, MIN, 1));
        due("row 8", BAD, x.set(8, 0, 1));
        due("row -1", BAD, x.set(-1, 0, 1));
    }

    // Promise 4
    private static void copies() {
        TowerBraid x = told(USUAL);
        x.row(0, 0, 6);
        x.row(1, 0, 6);
        x.row(2, 1, 6);
        due("rows are bad", BAD, x.copy(8, 0, 0, 0, 1));
        due("second row is bad", BAD, x.copy(0, 0, -1, 0, 1));
        due("bad ahead of null", BAD, x.copy(5, 0, 8, 0, 1));
        due("null ahead of store", NULL, x.copy(2, 0, 5, 0, 1));
        due("first is missing", NULL, x.copy(5, 0, 0, 0, 1));
        due("store ahead of place", STORE, x.copy(0, -1, 2, 0, 1));
        due("store of none", STORE, x.copy(0, 0, 2, 0, 0));
        due("i below 0", PLACE, x.copy(0, -1, 1, 0, 1));
        due("j below 0", PLACE, x.copy(0, 0, 1, -1, 1));
        due("n below 0", PLACE, x.copy(0, 0, 1, 0, -1));
        due("beyond the first's end", PLACE, x.copy(0, 5, 1, 0, 2));
        due("beyond the second's end", PLACE, x.copy(0, 0, 1, 5, 2));
        due("none beyond an end", PLACE, x.copy(0, 7, 1, 0, 0));
        due("none beyond the other's end", PLACE, x.copy(0, 0, 1, 7, 0));
        due("most", PLACE, x.copy(0, MAX, 1, 0, MAX));
        due("n of most", PLACE, x.copy(0, 1, 1, 1, MAX));
        due("none at the ends", 0, x.copy(0, 6, 1, 6, 0));
        due("all", 6, x.copy(0, 0, 1, 0, 6));
        // 13, 14 is what climber 0 (40 by three) would make.
        x.set(0, 0, 13);
        x.set(0, 1, 14);
        x.set(0, 2, 5);
        x.set(0, 3, 20);
        due("within one, forwards", 4, x.copy(0, 0, 0, 2, 4));
        due("as they were: 13, 14 behind", 1, x.climbers(0, 2, 1));
        due("as they were: 5, 20 behind", 1, x.climbers(0, 4, 1));
        due("the first stay", 1, x.climbers(0, 0, 1));
        due("within one, backwards", 4, x.copy(0, 2, 0, 0, 4));
        due("13, 14 ahead", 1, x.climbers(0, 0, 1));
        due("5, 20 ahead", 1, x.climbers(0, 2, 2));
        due("to another", 2, x.copy(0, 2, 1, 4, 2));
        due("5, 20 there", 1, x.climbers(1, 4, 1));
        due("nothing ahead of it there", BAD, x.climbers(1, 2, 1));
    }

    // Promise 5
    private static void drops() {
        TowerBraid x = new TowerBraid();
        due("drop 8", BAD, x.drop(8));
        due("drop -1", BAD, x.drop(-1));
        due("drop a missing one", NULL, x.drop(3));
        x.row(3, 1, 17);
        due("rows", 1, x.count(0));
        due("drop", 17, x.drop(3));
        due("no rows", 0, x.count(0));
        due("missing now", NULL, x.set(3, 0, 1));
        due("twice", NULL, x.drop(3));
        x.row(3, 0, 0);
        due("drop of none", 0, x.drop(3));
    }

    // Promise 6
    private static void feeds() {
        TowerBraid x = new TowerBraid();
        due("-1", BAD, x.feed(-1));
        due("256", BAD, x.feed(256));
        due("0", 1, x.feed(0));
        due("255", 2, x.feed(255));
        for (int i = 3; i <= 120; i++) {
            due("byte " + i, i, x.feed('a'));
        }
        due("full", FULL, x.feed('a'));
        due("bad ahead of full", BAD, x.feed(256));
        due("bytes", 120, x.count(9));
        due("a fault at 0", -1000100, x.tower());
        due("empty then", 1, x.feed('t'));
    }

    // Promise 7
    private static void towers() {
        TowerBraid x = fed(new TowerBraid(), USUAL);
        due("climbers", 4, x.tower());
        due("strands", 6, x.count(1));
        due("empty tape", 0, x.count(9));
        due("high", 20, x.count(4));
        due("long", 20, x.count(5));
        due("nothing is read", -1000100, x.tower());
        due("all stays", 4, x.count(2));
        fed(x, "t1,99;");
        due("no climbers", 0, x.tower());
        due("no strands", 0, x.count(1));
        due("high 1", 1, x.count(4));
        due("long 99", 99, x.count(5));
        fed(x, "t05,07;h01;c09,03,02;");
        due("figures with a 0 ahead", 1, x.tower());
        due("every", 3, x.climber(0, 1));
        due("off", 2, x.climber(0, 2));
        fed(x, "t99,1;w99;w1;w1;w1;w1;w1;c99,9,8;c1,1,0;c1,1,00;c1,1,0;c1,1,0;");
        due("as many as there is room for", 5, x.tower());
        due("six strands", 6, x.count(1));
        x.plait(3);
        fed(x, "t9,9;h1");
        due("one that has a fault", -1000107, x.tower());
        due("all stays, the plait too", 3, x.count(7));
        due("acts, too", 1, x.count(8));
        due("the tape is empty", 0, x.count(9));
    }

    private static void towerBeginsAnew() {
        TowerBraid x = told("t1,9;r9;r9;w9;h2;c8,1,0;");
        x.row(2, 0, 4);
        x.image(0);
        x.plait(9);
        x.climb(0);
        x.day();
        x.peg(1);
        x.ask(2, 0);
        due("one is gone", 1, x.strand(3, 2));
        fed(x, "t1,9;r9;r9;w9;h2;c8,1,0;");
        due("again", 1, x.tower());
        due("day", 0, x.count(3));
        due("long", 9, x.count(5));
        due("peg", 0, x.count(6));
        due("plait", 0, x.count(7));
        due("acts", 0, x.count(8));
        due("rows stay", 1, x.count(0));
        due("no act can be undone", STATE, x.undo());
        due("trace stays", 14, x.trace(0));
        for (int s = 0; s < 4; s++) {
            strandIs("anew", x, s, 0, 0, 0);
        }
        fed(x, "t1,9;r9;w1;c99,1,0;");
        x.tower();
        x.plait(3);
        due("both break", 2, x.climb(0));
        due("fell", 1, x.climber(0, 3));
        fed(x, "t1,9;r9;w1;c99,1,0;");
        x.tower();
        due("nobody fell", 0, x.climber(0, 3));
        due("images stay", 1, x.restore(0));
        due("four strands again", 4, x.count(1));
    }

    // Promises 7 and 8
    private static void faults() {
        fault("", 0, 1);
        fault("T1,1;", 0, 1);
        fault(" t1,1;", 0, 1);
        fault("h1;", 0, 1);
        fault("1", 0, 1);
        fault("t", 1, 1);
        fault("t,", 1, 1);
        fault("tt", 1, 1);
        fault("t 1,1;", 1, 1);
        fault("t1", 2, 1);
        fault("t1 ,1;", 2, 1);
        fault("t0,1;", 1, 2);
        fault("t00,1;", 1, 2);
        fault("t99", 3, 1);
        fault("t100,1;", 1, 1);
        fault("t000,1;", 1, 1);
        fault("t1;1;", 2, 1);
        fault("t1,0;", 3, 2);
        fault("t1,1,", 4, 1);
        fault("t1,1;;", 5, 1);
        fault("t1,1;t1,1;", 5, 1);
        fault("t1,1;5", 5, 1);
        fault("t1,1;555", 5, 1);
        fault("t1,1;x", 5, 1);
        fault("t1,1;H1;", 5, 1);
        fault("t1,1;hh", 6, 1);
        fault("t1,1;h0;", 6, 2);
        fault("t1,1;h100;", 6, 1);
        fault("t1,1;h1,", 7, 1);
        fault("t1,1;h1", 7, 1);
        fault("t1,1;h1; ", 8, 1);
        fault("t1,1;c0,1,0;", 6, 2);
        fault("t1,1;c1;", 7, 1);
        fault("t1,1;c1,0,0;", 8, 2);
        fault("t1,1;c1,10,0;", 8, 2);
        fault("t1,1;c1,1;", 9, 1);
        fault("t1,1;c1,1,1;", 10, 2);
        fault("t1,1;c1,9,9;", 10, 2);
        fault("t1,1;c1,9,99;", 10, 2);
        fault("t1,1;c1,9,100;", 10, 1);
        fault("t1,1;c1,9,8", 11, 1);
        fault("t1,1;c1,9,8,", 11, 1);
        fault("t1,1;c1,9,8;h1;", 12, 1);
        fault("t1,1;h1;h1;h1;h1;h1;h1;h1;", 23, 3);
        fault("t1,1;h1;h1;h1;h1;h1;h1;w", 23, 3);
        fault("t1,1;h1;h1;h1;h1;h1;h1;t", 23, 1);
        fault("t1,1;h1;h1;h1;h1;h1;h1;c1,1,0;h", 30, 1);
        fault("t1,1;c1,1,0;c1,1,0;c1,1,0;c1,1,0;c1,1,0;c1,1,0;", 40, 3);
        fault("t1,1;c1,1,0;c1,1,0;c1,1,0;c1,1,0;c1,1,0;h", 40, 1);
        TowerBraid x = fed(new TowerBraid(), "t0");
        due("one that has a fault", -1000101, x.tower());
        fed(x, "t1,1;");
        due("one that has none", 0, x.tower());
        due("the latest fault is told yet", 2, x.fault());
        due("byte 255", 1, x.feed(255));
        due("its fault", -1000100, x.tower());
    }

    private static void fault(String text, int place, int fault) {
        TowerBraid x = fed(new TowerBraid(), text);
        due("tower of " + text, -1000100 - place, x.tower());
        due("fault of " + text, fault, x.fault());
        due("tape behind " + text, 0, x.count(9));
    }

    // Promise 9
    private static void plaits() {
        TowerBraid x = told(USUAL);
        due("plait 63", 6, x.plait(63));
        due("all", 63, x.count(7));
        due("plait 0", 0, x.plait(0));
        due("none", 0, x.count(7));
        due("plait 64", BAD, x.plait(64));
        due("plait -1", BAD, x.plait(-1));
        due("plait of least", BAD, x.plait(MIN));
        due("only those are acts", 2, x.count(8));
        due("hair 9 and twine 15", 2, x.plait(48));
        x.climb(2);
        due("hair 9 is gone", 1, x.strand(5, 2));
        due("plait with one that is gone", STATE, x.plait(32));
        due("the plait stays", 16, x.count(7));
        due("plait without", 5, x.plait(31));
        TowerBraid y = told("t1,1;r1;r1;");
        due("two strands", 2, y.plait(3));
        due("no third", BAD, y.plait(4));
    }

    // Promise 10
    private static void climbs() {
        TowerBraid x = told("t20,19;" + STRANDS + CLIMBERS);
        x.plait(13);
        due("not long enough", STATE, x.climb(0));
        due("nobody", BAD, x.climb(4));
        due("nobody at -1", BAD, x.climb(-1));
        due("no act yet but the plait", 1, x.count(8));
        x.day();
        x.plait(0);
        due("an empty plait", STATE, x.climb(0));
        x.plait(13);
        due("climbs", 0, x.climb(0));
        // The share is 40 by 3: 14.
        strandIs("climbed", x, 0, 1, 0, 1);
        strandIs("climbed", x, 2, 2, 0, 1);
        strandIs("climbed", x, 3, 1, 0, 1);
        strandIs("climbed", x, 1, 0, 0, 0);
        due("nobody fell", 0, x.climber(0, 3));
        due("who is not due may climb", 0, x.climb(2));
        // 20 by 3 is 7: by a tenth nothing, a rope by 1.
        strandIs("climbed again", x, 0, 1, 0, 1);
        strandIs("climbed again", x, 3, 2, 0, 1);
        due("rope bears 16 now: 48 by three", 48, x.strongest(0));
        x.plait(8);
        due("a share above what is left", 1, x.climb(2));
        strandIs("broken", x, 3, 2, 1, 0);
        due("fell", 1, x.climber(2, 3));
    }

    private static void climbsThatBreak() {
        TowerBraid x = told("t1,1;" + STRANDS + CLIMBERS);
        x.plait(11);
        due("silk, then rope, then hair", 3, x.climb(0));
        due("the plait is empty", 0, x.count(7));
        due("fell", 1, x.climber(0, 3));
        for (int s : new int[] {0, 1, 3}) {
            strandIs("all broke", x, s, 0, 1, 0);
        }
        x.undo();
        x.plait(48);
        due("hair 9 breaks, the twine bears twice", 1, x.climb(2));
        strandIs("twine alone", x, 4, 2, 0, 1);
        strandIs("hair 9", x, 5, 0, 1, 0);
        due("nobody fell", 0, x.climber(2, 3));
        x.undo();
        x.plait(27);
        // 55 by 4 is 14: silk 12 breaks; 55 by 3 is 19: rope 18 and twine 15 break at once; 55 by 1.
        due("by turns", 4, x.climb(1));
        due("fell, too", 1, x.climber(1, 3));
        x.undo();
        x.plait(7);
        // 40 by 3 is 14: silk breaks; 20 by two hold: hair by 2, grey by 4.
        due("one breaks, two stay", 1, x.climb(0));
        strandIs("last share", x, 0, 2, 0, 1);
        strandIs("last share", x, 2, 4, 0, 1);
        due("not all fell", 0, x.climber(0, 3));
        due("plait of those left", 5, x.count(7));
        // The twine is worn by 4: 16 in company, 36 alone. 17 is too much for both, so both break at once.
        TowerBraid z = told("t1,1;w20;r10;c30,1,0;c34,1,0;");
        z.plait(1);
        z.climb(0);
        z.climb(0);
        due("twine worn", 4, z.strand(0, 1));
        due("34 by the twine alone", 1, z.borne(1, 1));
        z.plait(3);
        due("both at once", 2, z.climb(1));
        due("so one fell", 1, z.climber(1, 3));
        TowerBraid y = told("t1,1;h10;h10;c20,1,0;c21,1,0;");
        y.plait(3);
        due("just as much as it bears", 0, y.climb(0));
        due("worn by 1 each: 10 is too much now", 2, y.climb(0));
    }

    private static void climbsByKind() {
        String[] sorts = {"h", "s", "g", "r", "w"};
        int[] by9 = {0, 0, 0, 1, 1};
        int[] by19 = {1, 0, 2, 1, 1};
        int[] by20 = {2, 0, 4, 1, 2};
        int[] by99 = {9, 0, 18, 1, 5};
        for (int k = 0; k < 5; k++) {
            TowerBraid x = told("t1,1;" + sorts[k] + "99;c9,1,0;c19,1,0;c20,1,0;c99,1,0;");
            x.plait(1);
            int[][] by = {by9, by19, by20, by99};
            for (int c = 0; c < 4; c++) {
                x.plait(1);
                due(sorts[k] + " bears " + c, 0, x.climb(c));
                due(sorts[k] + " worn by " + c, by[c][k], x.strand(0, 1));
                x.undo();
            }
        }
        TowerBraid x = told("t1,1;h10;r99;w10;c40,1,0;c99,1,0;");
        x.peg(1);
        x.plait(2);
        x.climb(1);
        due("rope by 1, with a peg", 1, x.strand(1, 1));
        x.plait(4);
        due("twine alone: 20", 0, x.climb(0));
        due("worn by 2", 2, x.strand(2, 1));
        due("18 are left: breaks", 1, x.climb(0));
    }

    // Promise 11
    private static void days() {
        TowerBraid x = told("t20,97;");
        due("day 1", 1, x.day());
        due("long 98", 98, x.count(5));
        due("day 2", 2, x.day());
        due("day 3", 3, x.day());
        due("long 99 at most", 99, x.count(5));
        due("day", 3, x.count(3));
        due("undone", 2, x.undo());
        due("long 99 yet", 99, x.count(5));
        due("undone again", 1, x.undo());
        due("long 98 again", 98, x.count(5));
        for (int d = 2; d <= 400; d++) {
            due("day " + d, d, x.day());
        }
        due("still", 400, x.count(3));
        due("acts", 24, x.count(8));
    }

    // Promise 12
    private static void cuts() {
        TowerBraid x = told("t20,30;");
        due("by 0", BAD, x.cut(0));
        due("by 100", BAD, x.cut(100));
        due("by -1", BAD, x.cut(-1));
        due("by 31", STATE, x.cut(31));
        due("by 1", 29, x.cut(1));
        due("by all", 0, x.cut(29));
        due("by more", STATE, x.cut(1));
        due("two acts", 2, x.count(8));
        due("long", 0, x.count(5));
        TowerBraid y = told("t20,99;");
        due("by 99", 0, y.cut(99));
    }

    // Promise 13
    private static void pegs() {
        TowerBraid x = told(USUAL);
        due("2", BAD, x.peg(2));
        due("-1", BAD, x.peg(-1));
        due("none is there", STATE, x.peg(0));
        due("there", 1, x.peg(1));
        due("it is", 1, x.count(6));
        due("it is so", STATE, x.peg(1));
        x.plait(13);
        // Half of 55, cut up: 28; by three: 10.
        due("strain", 10, x.climber(1, 5));
        due("gone", 1, x.peg(0));
        due("it is gone", 0, x.count(6));
        due("strain without", 19, x.climber(1, 5));
        due("acts", 3, x.count(8));
    }

    // Promise 14
    private static void undoes() {
        TowerBraid x = told("t1,10;" + STRANDS + CLIMBERS);
        due("none", STATE, x.undo());
        x.plait(48);
        x.plait(48);
        x.climb(2);
        x.day();
        x.cut(4);
        x.peg(1);
        due("acts", 6, x.count(8));
        due("refused ones are no acts", STATE, x.peg(1));
        due("the peg", 5, x.undo());
        due("no peg", 0, x.count(6));
        due("the cut", 4, x.undo());
        due("long", 11, x.count(5));
        due("the day", 3, x.undo());
        due("day 0", 0, x.count(3));
        due("long 10", 10, x.count(5));
        due("the climb", 2, x.undo());
        strandIs("undone", x, 5, 0, 0, 1);
        strandIs("undone", x, 4, 0, 0, 1);
        due("one by which nothing became another", 1, x.undo());
        due("the plait", 48, x.count(7));
        due("the first", 0, x.undo());
        due("no plait", 0, x.count(7));
        due("none left", STATE, x.undo());
        x.plait(1);
        due("fell", 1, x.climb(3));
        due("once", 1, x.climber(3, 3));
        x.undo();
        due("never", 0, x.climber(3, 3));
        for (int i = 0; i < 30; i++) {
            x.day();
        }
        for (int left = 23; left >= 0; left--) {
            due("undo to " + left, left, x.undo());
        }
        due("24 at most", STATE, x.undo());
        due("the oldest are forgotten", 6, x.count(3));
        x.day();
        due("and on", 0, x.undo());
        due("day 6", 6, x.count(3));
    }

    // Promise 15
    private static void strands() {
        TowerBraid x = told("t1,1;" + STRANDS + CLIMBERS);
        int[] bears = {30, 12, 25, 18, 15, 9};
        x.plait(48);
        x.climb(2);
        for (int s = 0; s < 6; s++) {
            due("bears " + s, bears[s], x.strand(s, 0));
        }
        strandIs("twine", x, 4, 2, 0, 1);
        strandIs("hair", x, 5, 0, 1, 0);
        strandIs("rope", x, 3, 0, 0, 0);
        due("strand 6", BAD, x.strand(6, 0));
        due("strand -1", BAD, x.strand(-1, 0));
        due("what 4", BAD, x.strand(0, 4));
        due("what -1", BAD, x.strand(0, -1));
    }

    // Promise 16
    private static void climbers() {
        TowerBraid x = told(USUAL);
        int[][] told = {{40, 1, 0}, {55, 3, 2}, {20, 2, 1}, {90, 9, 4}};
        for (int c = 0; c < 4; c++) {
            for (int what = 0; what < 3; what++) {
                due("climber " + c + " " + what, told[c][what], x.climber(c, what));
            }
            due("fell", 0, x.climber(c, 3));
            due("by an empty plait", 0, x.climber(c, 4));
            due("no strain", 0, x.climber(c, 5));
        }
        x.plait(16);
        due("twine bears 20", 1, x.climber(2, 4));
        due("not 40", 0, x.climber(0, 4));
        due("40 by one", 40, x.climber(0, 5));
        x.plait(13);
        due("40 by three", 14, x.climber(0, 5));
        due("90 by three", 30, x.climber(3, 5));
        due("not borne", 0, x.climber(3, 4));
        x.peg(1);
        due("borne with a peg", 1, x.climber(3, 4));
        due("45 by three", 15, x.climber(3, 5));
        x.cut(20);
        due("whatever long is", 1, x.climber(3, 4));
        due("climber 4", BAD, x.climber(4, 0));
        due("climber -1", BAD, x.climber(-1, 0));
        due("what 6", BAD, x.climber(0, 6));
        due("what -1", BAD, x.climber(0, -1));
    }

    // Promise 17
    private static void dues() {
        TowerBraid x = told(USUAL);
        int[] due = {1, 5, 3, 5, 9, 7, 1, 5, 3, 5};
        for (int d = 0; d < 10; d++) {
            due("due " + d, due[d], x.due(d));
        }
        // 99 leaves 0 of 3, 1 of 2, 0 of 9.
        due("due 99", 5, x.due(99));
        due("due 100", BAD, x.due(100));
        due("due -1", BAD, x.due(-1));
        for (int d = 1; d < 10; d++) {
            x.day();
            due("due on day " + d, due[d], x.due(0));
        }
        due("nobody at all", 0, told("t1,1;h1;").due(0));
        due("all five", 31, told("t1,1;c1,1,0;c2,1,0;c3,1,0;c4,1,0;c5,1,0;").due(99));
    }

    // Promise 18
    private static void bornes() {
        TowerBraid x = told("t99,1;" + STRANDS + CLIMBERS);
        due("by none", 0, x.borne(0, 0));
        due("20 by 9 and 15", 0, x.borne(2, 48));
        due("20 by twine alone", 1, x.borne(2, 16));
        due("40 by twine alone", 0, x.borne(0, 16));
        due("40 by three", 1, x.borne(0, 13));
        due("55 by three", 0, x.borne(1, 13));
        due("set 64", BAD, x.borne(0, 64));
        due("set -1", BAD, x.borne(0, -1));
        due("climber 4", BAD, x.borne(4, 1));
        due("climber -1", BAD, x.borne(-1, 1));
        due("nothing is an act", 0, x.count(8));
        TowerBraid y = told("t1,1;" + STRANDS + CLIMBERS);
        y.plait(48);
        y.climb(2);
        due("one is gone", STATE, y.borne(2, 33));
        due("bad ahead of state", BAD, y.borne(4, 33));
        due("by others", 1, y.borne(2, 1));
        due("worn: 28 are left", 1, y.borne(2, 16));
        y.climb(2);
        y.climb(2);
        y.climb(2);
        due("22 are left", 1, y.borne(2, 16));
        y.climb(2);
        due("20 are left", 1, y.borne(2, 16));
        y.climb(2);
        due("18 are left", 0, y.borne(2, 16));
    }

    // Promise 19
    private static void plans() {
        TowerBraid x = told(USUAL);
        due("1 day", 1, x.plan(1, -1));
        due("its set", 47, x.plan(1, 0));
        due("2 days", 3, x.plan(2, -1));
        due("first", 47, x.plan(2, 0));
        due("second", 47, x.plan(2, 1));
        due("3 days", 10, x.plan(3, -1));
        due("third", 31, x.plan(3, 2));
        TowerBraid f = told(USUAL);
        due("3 days first", 10, f.plan(3, -1));
        due("then 1 day", 1, f.plan(1, -1));
        due("its set then", 47, f.plan(1, 0));
        due("then 2 days", 3, f.plan(2, -1));
        due("3 days again", 31, f.plan(3, 2));
        f.day();
        due("2 days from day 1 on: 10 less 1", 9, f.plan(2, -1));
        due("1 day from day 1 on", 2, f.plan(1, -1));
        due("0 days", BAD, x.plan(0, -1));
        due("4 days", BAD, x.plan(4, -1));
        due("k -2", BAD, x.plan(1, -2));
        due("k 1 of 1", BAD, x.plan(1, 1));
        due("k 3 of 3", BAD, x.plan(3, 3));
        due("nothing changes", 0, x.strand(3, 1));
        due("no plait", 0, x.count(7));
        TowerBraid y = told("t1,1;s9;s9;s20;c18,2,1;");
        due("nobody is due", 0, y.plan(1, -1));
        due("no set", 0, y.plan(1, 0));
        due("two days", 0, y.plan(2, -1));
        due("0 on the first", 0, y.plan(2, 0));
        due("the first of several", 3, y.plan(2, 1));
        due("0 on the third", 0, y.plan(3, 2));
        y.day();
        due("due today", 3, y.plan(1, 0));
        due("not tomorrow", 0, y.plan(2, 1));
        due("two days on", 3, y.plan(3, 2));
        TowerBraid z = told("t1,1;c1,1,0;");
        due("no strands", NONE, z.plan(1, -1));
        due("no set of them", NONE, z.plan(1, 0));
        due("no climbers", 0, told("t1,1;h1;").plan(3, -1));
    }

    private static void plansAndLength() {
        TowerBraid x = told("t5,3;s99;c1,1,0;");
        due("too short", NONE, x.plan(1, -1));
        due("too short for any", NONE, x.plan(3, -1));
        TowerBraid y = told("t5,3;s99;c1,3,2;");
        due("nobody yet", 0, y.plan(2, -1));
        due("long enough then", 0, y.plan(3, -1));
        due("by the silk", 1, y.plan(3, 2));
        y.cut(1);
        due("too short then", NONE, y.plan(3, -1));
        y.undo();
        due("undone", 1, y.plan(3, 2));
        y.day();
        due("on day 1", 1, y.plan(2, 1));
        y.day();
        due("on day 2", 1, y.plan(1, 0));
    }

    private static void plansBehindOneAnother() {
        // 10 by the hair wear it by 1 each time: BEARS 10 is enough once.
        TowerBraid x = told("t1,1;h10;c10,1,0;");
        due("once", 1, x.plan(1, -1));
        due("not twice", NONE, x.plan(2, -1));
        due("nor the set", NONE, x.plan(2, 0));
        TowerBraid y = told("t1,1;h11;c10,1,0;c10,1,0;");
        due("both on one day", 2, y.plan(1, -1));
        due("not on two", NONE, y.plan(2, -1));
        // The heavier first: the twine is worn by 1 and a twentieth of 20, then 18 are too many.
        TowerBraid z = told("t1,1;w10;c20,1,0;c19,1,0;");
        due("by numbers", NONE, z.plan(1, -1));
        TowerBraid w = told("t1,1;w10;c19,1,0;c18,1,0;");
        due("twine by 1 each", 2, w.plan(1, -1));
        // Rope or hair, one at a time: by sets, DAY by DAY, the first.
        TowerBraid v = told("t1,1;r10;r10;c10,1,0;");
        due("two days", 2, v.plan(2, -1));
        due("first rope", 1, v.plan(2, 0));
        due("second rope, the first is worn", 2, v.plan(2, 1));
        // By both it is two more each day, but a third day is had by that alone.
        due("three days", 4, v.plan(3, -1));
        due("one", 1, v.plan(3, 0));
        due("the other", 2, v.plan(3, 1));
        due("both", 3, v.plan(3, 2));
        v.plait(1);
        v.climb(0);
        due("worn ones count from now on", 1, v.plan(1, -1));
        due("the other rope", 2, v.plan(1, 0));
        v.plait(2);
        v.climb(0);
        due("both of them now", 2, v.plan(1, -1));
        due("both", 3, v.plan(1, 0));
        v.peg(1);
        due("with a peg one is enough", 1, v.plan(1, -1));
        due("the first", 1, v.plan(1, 0));
        fed(v, "t1,1;s9;s9;r9;c9,1,0;");
        v.tower();
        due("of a new tower", 0, v.plan(1, -1));
        v.image(0);
        v.plait(1);
        v.climb(0);
        v.cut(1);
        due("too short", NONE, v.plan(1, -1));
        v.restore(0);
        due("of an image", 0, v.plan(1, -1));
        // Nobody today, then one who needs both: a plan for fewer days after one for more.
        TowerBraid t = told("t1,1;r9;r9;c18,3,2;");
        due("three days", 2, t.plan(3, -1));
        due("two days", 0, t.plan(2, -1));
        due("one day", 0, t.plan(1, -1));
        TowerBraid r = told("t1,1;r9;c9,2,0;");
        due("not three days", NONE, r.plan(3, -1));
        due("two days of them", 1, r.plan(2, -1));
        due("one of them", 1, r.plan(1, -1));
        TowerBraid u = told("t1,1;s9;s20;c20,1,0;c9,2,1;");
        u.plait(3);
        due("silk 9 breaks", 1, u.climb(0));
        due("gone ones are left out", 2, u.plan(1, 0));
        due("for two days", 2, u.plan(2, 1));
    }

    // Promise 20
    private static void nevers() {
        due("always", NONE, told(USUAL).never());
        due("never at once", 1, told("t2,1;s9;c1,1,0;").never());
        due("not twice", 2, told("t1,1;h10;c10,1,0;").never());
        due("not thrice", 3, told("t1,1;h11;c10,1,0;").never());
        due("thrice", NONE, told("t1,1;h12;c10,1,0;").never());
        due("nobody", NONE, told("t9,1;").never());
        TowerBraid x = told("t1,1;h11;c10,1,0;");
        x.plait(1);
        x.climb(0);
        due("one climbed", 2, x.never());
        x.climb(0);
        due("two climbed", 1, x.never());
        x.undo();
        due("undone", 2, x.never());
    }

    // Promise 21
    private static void neededs() {
        TowerBraid x = told(USUAL);
        due("an empty plait", 0, x.needed(0));
        x.plait(13);
        // 40: without the rope 20 by 30 and 25; without another 20 by a rope of 18.
        due("all but the rope", 5, x.needed(0));
        due("not by all", 13, x.needed(1));
        due("20 by any two", 0, x.needed(2));
        x.plait(1);
        due("the only one", 1, x.needed(2));
        x.plait(48);
        // 20 by 9 and 15 is not borne, though it is by the twine alone.
        due("all of the plait", 48, x.needed(2));
        TowerBraid y = told("t1,1;w15;h20;c30,1,0;");
        y.plait(3);
        // The twine alone bears 30, the hair alone only 20.
        due("the twine", 1, y.needed(0));
        due("climber 1", BAD, y.needed(1));
        due("climber -1", BAD, y.needed(-1));
    }

    // Promise 22
    private static void strongests() {
        TowerBraid x = told(USUAL);
        due("an empty plait", 0, x.strongest(0));
        due("stoutest", 29, x.strongest(1));
        due("by that", 60, x.strongest(2));
        due("3", BAD, x.strongest(3));
        due("-1", BAD, x.strongest(-1));
        x.plait(13);
        due("three by 18", 54, x.strongest(0));
        x.plait(16);
        due("twine alone", 30, x.strongest(0));
        x.peg(1);
        due("with a peg", 60, x.strongest(0));
        x.plait(13);
        due("99 at most", 99, x.strongest(0));
        // Twice 25 by two are 100: 99 at most; hair and grey are the least set that bears so much.
        due("least of several", 5, x.strongest(1));
        due("99 by that", 99, x.strongest(2));
        TowerBraid y = told("t1,1;r1;c1,1,0;c2,1,0;");
        due("one", 1, y.strongest(1));
        y.plait(1);
        y.climb(0);
        due("worn out", 0, y.strongest(0));
        due("no set bears any", 0, y.strongest(1));
        due("nothing by that", 0, y.strongest(2));
        y.climb(0);
        due("gone", 1, y.strand(0, 2));
        due("none left", 0, y.strongest(1));
        TowerBraid z = told("t1,1;s50;s99;c99,1,0;");
        due("silk 99 alone", 2, z.strongest(1));
        TowerBraid w = told("t1,1;s50;s50;s40;c99,1,0;");
        due("both of 50, 99 at most", 3, w.strongest(1));
        w.plait(5);
        due("50 by each", 2, w.climb(0));
        due("those that are left", 2, w.strongest(1));
        due("50", 50, w.strongest(2));
    }

    // Promise 23
    private static void cutMosts() {
        due("nobody", NONE, told("t1,9;h1;").cutMost());
        due("today", 4, told("t5,9;c1,1,0;").cutMost());
        due("just so", 0, told("t9,9;c1,1,0;").cutMost());
        due("too short", NONE, told("t9,8;c1,1,0;").cutMost());
        due("on day 2", 0, told("t9,7;c1,3,2;").cutMost());
        due("too short on day 2", NONE, told("t9,6;c1,3,2;").cutMost());
        due("the soonest", 1, told("t9,9;c1,3,2;c1,2,1;").cutMost());
        due("on day 8", 8, told("t9,9;c1,9,8;").cutMost());
        due("no more than it is long", 2, told("t1,2;c1,9,8;").cutMost());
        due("of 99", 12, told("t95,99;c1,9,8;").cutMost());
        TowerBraid x = told("t5,9;c1,4,0;");
        due("now", 4, x.cutMost());
        x.day();
        due("in three days", 8, x.cutMost());
        x.cut(8);
        due("all of it is cut", 0, x.cutMost());
        due("long 2", 2, x.count(5));
    }

    // Promise 24
    private static void comes() {
        TowerBraid x = told(USUAL);
        due("first", 2, x.comes(1, 1));
        due("twentieth", 59, x.comes(1, 20));
        due("every day", 0, x.comes(0, 1));
        due("0 times", BAD, x.comes(0, 0));
        due("21 times", BAD, x.comes(0, 21));
        due("climber 4", BAD, x.comes(4, 1));
        due("climber -1", BAD, x.comes(-1, 1));
        x.day();
        x.day();
        due("this day is one", 2, x.comes(1, 1));
        due("then", 5, x.comes(1, 2));
        x.day();
        due("the next", 5, x.comes(1, 1));
        due("of nine", 4, x.comes(3, 1));
        x.day();
        x.day();
        due("of nine again", 13, x.comes(3, 1));
    }

    // Promise 25
    private static void climbeds() {
        TowerBraid x = told("t1,1;" + STRANDS + CLIMBERS + "c41,2,0;");
        due("by an empty plait all make 0", 31, x.climbed(0));
        due("none makes 1", 0, x.climbed(1));
        x.plait(13);
        due("14: 40 and 41", 17, x.climbed(14));
        due("19", 2, x.climbed(19));
        due("7", 4, x.climbed(7));
        due("0", 0, x.climbed(0));
        x.plait(1);
        due("90 by one", 8, x.climbed(90));
        due("99", 0, x.climbed(99));
        due("100", BAD, x.climbed(100));
        due("-1", BAD, x.climbed(-1));
        x.peg(1);
        due("21 by half of 41", 16, x.climbed(21));
    }

    // Promise 26
    private static void climbersByStrains() {
        TowerBraid x = told("t1,1;" + STRANDS + CLIMBERS + "c41,2,0;");
        x.row(0, 0, 17);
        int[] items = {7, 14, 3, 20, 24, 21, 63, 7};
        for (int i = 0; i < 8; i++) {
            x.set(0, i, items[i]);
        }
        due("40 and 41", 17, x.climbers(0, 0, 1));
        due("40 alone", 1, x.climbers(0, 0, 2));
        due("not all can be", 0, x.climbers(0, 0, 3));
        due("41 alone", 16, x.climbers(0, 4, 2));
        due("a set of none", BAD, x.climbers(0, 0, 5));
        due("0 strains", BAD, x.climbers(0, 0, 0));
        due("9 strains", BAD, x.climbers(0, 0, 9));
        due("row 8", BAD, x.climbers(8, 0, 1));
        due("row -1", BAD, x.climbers(-1, 0, 1));
        due("bad n ahead of null", BAD, x.climbers(5, 0, 9));
        due("missing", NULL, x.climbers(5, 0, 1));
        due("beyond its end", PLACE, x.climbers(0, 2, 8));
        due("place ahead of a set of none", PLACE, x.climbers(0, 16, 1));
        due("below 0", PLACE, x.climbers(0, -1, 1));
        due("most", PLACE, x.climbers(0, MAX, 8));
        for (int i = 8; i < 17; i++) {
            x.set(0, i, i % 2 == 0 ? 7 : 14);
        }
        due("at its end", 17, x.climbers(0, 14, 1));
        x.set(0, 0, 64);
        due("no such set", BAD, x.climbers(0, 0, 1));
        x.set(0, 0, -1);
        due("a set below 0", BAD, x.climbers(0, 0, 1));
        x.set(0, 0, 63);
        x.set(0, 1, 100);
        due("strain 100", BAD, x.climbers(0, 0, 1));
        x.set(0, 1, -1);
        due("strain -1", BAD, x.climbers(0, 0, 1));
        x.set(0, 1, 99);
        due("strain 99", 0, x.climbers(0, 0, 1));
        x.set(0, 3, 100);
        due("a wrong one behind one that none makes", BAD, x.climbers(0, 0, 2));
        x.set(0, 1, 0);
        due("strain 0", 0, x.climbers(0, 0, 1));
        x.plait(48);
        x.climb(2);
        x.set(0, 0, 48);
        x.set(0, 1, 10);
        due("gone ones count, too", 4, x.climbers(0, 0, 1));
        x.peg(1);
        due("half of 40 by two", 1, x.climbers(0, 0, 1));
        x.set(0, 1, 5);
        due("half of 20", 4, x.climbers(0, 0, 1));
    }

    // Promise 27
    private static void storms() {
        TowerBraid x = told(USUAL);
        due("an empty plait", 0, x.storm(0, 2, 0));
        due("is 0 by 1", 1, x.storm(0, 2, 1));
        x.plait(13);
        // 40 is borne by all three and by hair and grey: 0.8 * 0.8.
        fraction(x, 0, 2, 16, 25);
        fraction(x, 0, 0, 1, 1);
        fraction(x, 0, 10, 0, 1);
        fraction(x, 0, 5, 1, 4);
        // 90 is not borne at all.
        fraction(x, 3, 2, 0, 1);
        // 20 is borne by hair, by grey, not by the rope alone, by any two: 1 less 0.2 * 0.2.
        fraction(x, 2, 2, 24, 25);
        fraction(x, 2, 9, 19, 100);
        x.plait(48);
        // 20 is borne by the twine alone only: 0.7 * 0.3.
        fraction(x, 2, 3, 21, 100);
        fraction(x, 2, 0, 0, 1);
        x.plait(63);
        // Climber 0 with all: 7 each is borne by every strand.
        fraction(x, 0, 0, 1, 1);
        due("c 11", BAD, x.storm(0, 11, 0));
        due("c -1", BAD, x.storm(0, -1, 0));
        due("what 2", BAD, x.storm(0, 1, 2));
        due("what -1", BAD, x.storm(0, 1, -1));
        due("climber 4", BAD, x.storm(4, 1, 0));
        due("climber -1", BAD, x.storm(-1, 1, 0));
    }

    private static void fraction(TowerBraid x, int climber, int c, int above, int below) {
        due("above, " + climber + " by " + c, above, x.storm(climber, c, 0));
        due("below, " + climber + " by " + c, below, x.storm(climber, c, 1));
    }

    // Promise 28
    private static void images() {
        TowerBraid x = told(USUAL);
        due("image 2", BAD, x.image(2));
        due("image -1", BAD, x.image(-1));
        x.plait(13);
        due("kept", 1, x.image(1));
        due("no act", 1, x.count(8));
        due("the other is not kept", STATE, x.restore(0));
        x.plait(1);
        due("kept again", 1, x.image(1));
        x.plait(2);
        x.restore(1);
        due("the later one", 1, x.count(7));
    }

    // Promise 29
    private static void restores() {
        TowerBraid x = told("t1,9;" + STRANDS + CLIMBERS);
        due("restore 2", BAD, x.restore(2));
        due("restore -1", BAD, x.restore(-1));
        due("none was kept", STATE, x.restore(0));
        x.plait(48);
        x.climb(2);
        x.plait(1);
        x.climb(3);
        x.day();
        x.peg(1);
        x.plait(16);
        x.image(0);
        fed(x, "t3,4;h1;c1,1,0;");
        x.tower();
        x.plait(1);
        x.feed('t');
        due("restored", 1, x.restore(0));
        due("no act can be undone", STATE, x.undo());
        int[] counts = {0, 6, 4, 1, 1, 10, 1, 16, 0, 1};
        for (int what = 0; what < 10; what++) {
            due("count " + what, counts[what], x.count(what));
        }
        strandIs("restored", x, 4, 2, 0, 1);
        strandIs("restored", x, 5, 0, 1, 0);
        strandIs("restored", x, 0, 0, 1, 0);
        due("fell", 1, x.climber(3, 3));
        due("weight", 90, x.climber(3, 0));
        due("every", 9, x.climber(3, 1));
        due("off", 4, x.climber(3, 2));
        due("sort", 3, x.kind(2));
        due("bears", 25, x.strand(2, 0));
        x.climb(2);
        due("worn more", 3, x.strand(4, 1));
        due("restored again", 1, x.restore(0));
        due("the image is as it was", 2, x.strand(4, 1));
        // Half of 40, then of 20, by silk and grey hair: by 10 the grey one is worn by 2.
        due("plans, too", 2, x.plan(1, -1));
        due("by silk and grey hair", 6, x.plan(1, 0));
    }

    // Promise 30
    private static void kinds() {
        TowerBraid x = told(USUAL);
        int[] kinds = {1, 2, 3, 4, 5, 1};
        for (int s = 0; s < 6; s++) {
            due("kind " + s, kinds[s], x.kind(s));
        }
        due("kind 6", BAD, x.kind(6));
        due("kind -1", BAD, x.kind(-1));
    }

    // Promise 31
    private static void kindsTakenAs() {
        TowerBraid x = told(USUAL);
        // By strand: the kinds that it is (bits).
        int[] is = {3, 7, 11, 17, 49, 3};
        for (int s = 0; s < 6; s++) {
            for (int k = 0; k < 6; k++) {
                int want = (is[s] >> k & 1) == 1 ? s : KIND;
                due(s + " as " + k, want, x.as(s, k));
                due("status of that", want == KIND ? 3 : 0, x.status());
            }
        }
        due("kind 6", BAD, x.as(0, 6));
        due("kind -1", BAD, x.as(0, -1));
        due("strand 6", BAD, x.as(6, 0));
        due("strand -1", BAD, x.as(-1, 0));
        due("its kind stays", 2, x.kind(1));
    }

    // Promise 32
    private static void sizes() {
        TowerBraid x = worn();
        asked(x, 0, 0, 30 + 0 + 2, 11, 10, 21, 20);
        asked(x, 1, 0, -(20 + 2 * 1), 12, 11, 10, 24, 21, 20);
        asked(x, 2, 0, 25 + 2 + 4 - 1000, 11, 10, 22, 21, 20);
        asked(x, 3, 0, 18 - 100, 13, 10);
        asked(x, 4, 0, 2 * (15 - 100), 14, 13, 10);
        due("strand 6", BAD, x.ask(6, 0));
        due("strand -1", BAD, x.ask(-1, 0));
        due("what 2", BAD, x.ask(0, 2));
        due("what -1", BAD, x.ask(0, -1));
        asked(told("t1,1;r1;r1;r1;s20;"), 3, 0, -(20 + 2 * 3), 12, 11, 10, 24, 21, 20);
    }

    private static void marks() {
        asked(told("t1,1;r1;r1;r1;s20;"), 3, 1, 2 * 3, 24, 21, 20);
        TowerBraid x = worn();
        asked(x, 0, 1, 0 + 2, 21, 20);
        asked(x, 1, 1, 2 * 1, 24, 21, 20);
        asked(x, 2, 1, 2 + 4 - 1000, 22, 21, 20);
        asked(x, 3, 1, 3 - (18 - 100), 23, 20, 13, 10);
        asked(x, 4, 1, 4 - 2 * (15 - 100), 23, 20, 14, 13, 10);
    }

    /** Hair 30 is worn by 2, grey hair 25 by 4. */
    private static TowerBraid worn() {
        TowerBraid x = told("t1,1;h30;s20;g25;r18;w15;c60,1,0;");
        x.plait(7);
        due("60 by three", 0, x.climb(0));
        return x;
    }

    private static void asked(TowerBraid x, int strand, int what, int want, int... bodies) {
        due("ask " + strand + " " + what, want, x.ask(strand, what));
        for (int i = 0; i < bodies.length; i++) {
            due("trace " + i + " of ask " + strand + " " + what, bodies[i], x.trace(i));
        }
        due("behind the trace", NONE, x.trace(bodies.length));
    }

    // Promise 33
    private static void traces() {
        TowerBraid x = told(USUAL);
        due("none yet", NONE, x.trace(0));
        x.ask(4, 0);
        due("first", 14, x.trace(0));
        due("last", 10, x.trace(2));
        due("below 0", NONE, x.trace(-1));
        due("least", NONE, x.trace(MIN));
        due("most", NONE, x.trace(MAX));
        due("16", NONE, x.trace(16));
        due("a bad ask", BAD, x.ask(6, 0));
        due("a bad ask of a strand", BAD, x.ask(0, 2));
        due("the trace stays", 13, x.trace(1));
        x.ask(0, 1);
        due("empty ahead of an ask", 21, x.trace(0));
        due("nothing of the one before", NONE, x.trace(2));
    }

    // Promise 34
    private static void counts() {
        TowerBraid x = told("t3,9;" + STRANDS + CLIMBERS);
        x.row(1, 0, 0);
        x.row(7, 2, 4);
        x.row(7, 1, 5);
        x.day();
        x.day();
        x.peg(1);
        x.plait(48);
        x.peg(0);
        x.climb(2);
        x.cut(1);
        x.feed('t');
        x.feed('1');
        x.feed(' ');
        int[] counts = {2, 6, 4, 2, 3, 10, 0, 16, 7, 3};
        for (int what = 0; what < 10; what++) {
            due("count " + what, counts[what], x.count(what));
        }
        x.peg(1);
        due("a peg", 1, x.count(6));
        due("10", BAD, x.count(10));
        due("-1", BAD, x.count(-1));
    }

    // Promise 35
    private static void statuses() {
        TowerBraid x = told(USUAL);
        due("none yet", 0, x.status());
        x.row(0, 0, -1);
        due("size", 4, x.status());
        x.row(8, 0, 1);
        due("bad leaves it", 4, x.status());
        x.row(0, 0, 2);
        due("row has none", 0, x.status());
        x.set(1, 0, 1);
        due("null", 1, x.status());
        x.set(0, 0, 1);
        due("set has none", 0, x.status());
        x.set(0, 2, 1);
        due("place", 2, x.status());
        x.set(9, 0, 0);
        x.copy(9, 0, 0, 0, 0);
        x.drop(9);
        x.climbers(9, 0, 1);
        x.as(9, 0);
        due("bad ones leave it", 2, x.status());
        x.plait(64);
        x.ask(0, 0);
        x.day();
        due("others leave it", 2, x.status());
        x.copy(0, 0, 0, 0, 2);
        due("copy has none", 0, x.status());
        x.row(1, 1, 2);
        x.copy(0, 0, 1, 0, 1);
        due("store", 5, x.status());
        x.drop(1);
        due("drop has none", 0, x.status());
        x.drop(1);
        due("null of drop", 1, x.status());
        x.as(0, 1);
        due("as has none", 0, x.status());
        x.as(0, 2);
        due("kind", 3, x.status());
        x.set(0, 0, 3);
        x.set(0, 1, 20);
        x.set(0, 2, 0);
        x.climbers(0, 0, 1);
        due("climbers has none", 0, x.status());
        x.climbers(0, 1, 1);
        due("place of climbers", 2, x.status());
        x.set(0, 0, 0);
        x.climbers(1, 0, 1);
        due("null of climbers", 1, x.status());
        due("bad behind findings", BAD, x.climbers(0, 0, 1));
        due("leaves it", 1, x.status());
        fed(x, "t1,1;");
        x.tower();
        due("a tower leaves it", 1, x.status());
        TowerBraid y = new TowerBraid();
        y.drop(0);
        y.row(0, 0, 2);
        y.drop(1);
        due("state", STATE, y.climbers(0, 0, 1));
        due("state leaves it", 1, y.status());
    }
}
