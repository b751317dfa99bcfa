import java.util.ArrayList;
import java.util.List;
import java.util.function.Supplier;

/**
 * Refusals: which of several is told, and that nothing changes by them. For the latter two objects of
 * the same past are looked at, one of which is asked in between: all that can be seen must be the same.
 */
final class RefusalEdgeTests extends Edges {
    private static final String TOLD = "t5,9;h50;s5;g60;r40;w30;h60;c40,3,2;c60,2,1;";

    private RefusalEdgeTests() {
    }

    public static void main(String[] args) throws IllegalAccessException {
        run(RefusalEdgeTests.class, args);
    }

    private interface Call {
        int on(TowerBraid x);
    }

    // ---- the past

    /** Strand 1 is GONE, strand 0 WORN; a PEG is there; rows 0 to 2; image 0; fault 2; status 3. */
    private static TowerBraid past() {
        TowerBraid x = new TowerBraid();
        fed(x, TOLD).tower();
        x.image(0);
        x.plait(3);
        x.climb(0);
        x.plait(13);
        x.climb(1);
        x.day();
        x.cut(2);
        x.peg(1);
        rows(x);
        x.ask(4, 1);
        fed(x, "t0").tower();
        fed(x, "t1,1;h");
        x.as(0, 2);
        return x;
    }

    private static void rows(TowerBraid x) {
        int[] items = {7, 7, 3, 10};
        x.row(0, 2, 4);
        for (int i = 0; i < 4; i++) {
            x.set(0, i, items[i]);
        }
        x.row(1, 0, 3);
        x.row(2, 1, 0);
    }

    private static TowerBraid tooShort() {
        TowerBraid x = past();
        x.cut(8);
        return x;
    }

    private static TowerBraid notPlaited() {
        TowerBraid x = past();
        x.plait(0);
        return x;
    }

    private static TowerBraid fullTape() {
        TowerBraid x = told("t1,1;s9;c9,1,0;");
        x.plait(1);
        for (int i = 0; i < 120; i++) {
            x.feed('x');
        }
        return x;
    }

    private static TowerBraid noActs() {
        TowerBraid x = past();
        x.restore(0);
        return x;
    }

    private static TowerBraid noTower() {
        TowerBraid x = new TowerBraid();
        rows(x);
        x.as(0, 0);
        x.drop(7);
        fed(x, "t0").tower();
        fed(x, "t1");
        return x;
    }

    // ---- looking

    /** All that can be seen, status() left out; what is seen by doing comes last. */
    private static List<Integer> look(TowerBraid x) {
        List<Integer> seen = new ArrayList<>();
        lookAtTower(x, seen);
        for (int c = 0; c < 2; c++) {
            for (int what = 0; what < 6; what++) {
                seen.add(x.climber(c, what));
            }
        }
        for (int i = 0; i < 6; i++) {
            seen.add(x.trace(i));
        }
        for (int what = 0; what < 3; what++) {
            seen.add(x.strongest(what));
        }
        seen.add(x.plan(3, -1));
        seen.add(x.plan(3, 1));
        seen.add(x.plan(3, 2));
        seen.add(x.never());
        seen.add(x.cutMost());
        lookAtRows(x, seen);
        seen.add(x.fault());
        seen.add(x.tower());
        seen.add(x.fault());
        lookAtActs(x, seen);
        for (int k = 0; k < 2; k++) {
            seen.add(x.restore(k));
            lookAtTower(x, seen);
        }
        return seen;
    }

    private static void lookAtTower(TowerBraid x, List<Integer> seen) {
        for (int what = 0; what < 10; what++) {
            seen.add(x.count(what));
        }
        for (int s = 0; s < 6; s++) {
            for (int what = 0; what < 4; what++) {
                seen.add(x.strand(s, what));
            }
            seen.add(x.kind(s));
        }
    }

    private static void lookAtRows(TowerBraid x, List<Integer> seen) {
        seen.add(x.climbers(0, 0, 1));
        seen.add(x.climbers(0, 2, 1));
        for (int row = 0; row < 8; row++) {
            seen.add(x.set(row, 0, 70000));
            seen.add(x.drop(row));
        }
    }

    private static void lookAtActs(TowerBraid x, List<Integer> seen) {
        for (int act = 0; act < 10; act++) {
            seen.add(x.undo());
            for (int what = 3; what < 8; what++) {
                seen.add(x.count(what));
            }
            for (int s = 0; s < 3; s++) {
                seen.add(x.strand(s, 1));
            }
            seen.add(x.climber(0, 3));
        }
    }

    /** A call that is answered so leaves all as it was; status() is the finding's, if it is one. */
    private static void leaves(Supplier<TowerBraid> past, String call, int want, Call asked) {
        TowerBraid x = past.get();
        TowerBraid y = past.get();
        due(call, want, asked.on(x));
        due(call + " again", want, asked.on(x));
        int status = y.status();
        boolean found = want <= NULL && want >= STORE;
        due("status by " + call, found ? -1000010 - want : status, x.status());
        List<Integer> seen = look(x);
        List<Integer> before = look(y);
        for (int i = 0; i < before.size(); i++) {
            due("look " + i + " behind " + call, before.get(i), seen.get(i));
        }
    }

    // ---- Terms: the first that fits

    @Says("Refusals are answers, the first of these that fits, but as told: BAD (a number is not as told; there is no such thing), STATE (as told), FULL (as told), then FINDINGS")
    private static void badIsAheadOfState() {
        TowerBraid x = plaited("t5,4;h1;s1;c9,1,0;", 0);
        due("climb of nobody, too short, not plaited", BAD, x.climb(1));
        x.day();
        x.plait(1);
        x.climb(0);
        due("borne of nobody by one that is gone", BAD, x.borne(1, 1));
        due("plait of no set with one that is gone", BAD, x.plait(5));
        due("cut by none, of nothing", BAD, x.cut(0));
        due("cut by 100, of less", BAD, x.cut(100));
        due("restore of no image", BAD, x.restore(2));
        due("image of no tower", BAD, new TowerBraid().image(2));
        due("restore of no tower", BAD, new TowerBraid().restore(-1));
    }

    @Says("BAD (a number is not as told; there is no such thing), STATE (as told), FULL (as told), then FINDINGS")
    private static void badIsAheadOfFull() {
        TowerBraid x = fullTape();
        due("no byte", BAD, x.feed(256));
        due("no byte below 0", BAD, x.feed(-1));
        due("a byte", FULL, x.feed(255));
    }

    @Says("BAD (a number is not as told; there is no such thing), STATE (as told), FULL (as told), then FINDINGS")
    private static void badIsAheadOfFindings() {
        TowerBraid x = past();
        due("row of no lane, fewer than none", BAD, x.row(0, 3, -1));
        due("set in no row, no place", BAD, x.set(8, -1, 0));
        due("copy from no row to a missing one", BAD, x.copy(-1, 0, 5, 0, 1));
        due("drop of no row", BAD, x.drop(8));
        due("climbers of a missing row by 9", BAD, x.climbers(5, 0, 9));
        due("climbers from no place by 0", BAD, x.climbers(0, -1, 0));
        due("as of no strand", BAD, x.as(6, 2));
        due("status", 3, x.status());
    }

    @Says("STATE (as told), FULL (as told), then FINDINGS")
    private static void stateIsAheadOfFindings() {
        TowerBraid x = noTower();
        due("climbers of a missing row", STATE, x.climbers(5, 0, 1));
        due("climbers from no place", STATE, x.climbers(0, 9, 1));
        due("status", 1, x.status());
    }

    @Says("but as told: BAD")
    private static void stateIsAheadOfBadWithoutATower() {
        TowerBraid x = noTower();
        due("plait", STATE, x.plait(64));
        due("cut", STATE, x.cut(0));
        due("peg", STATE, x.peg(2));
        due("due", STATE, x.due(100));
        due("plan", STATE, x.plan(4, 4));
        due("strongest", STATE, x.strongest(3));
        due("climbed", STATE, x.climbed(100));
        due("climbers", STATE, x.climbers(8, 0, 9));
    }

    @Says("then FINDINGS, of several the first in time")
    private static void ofSeveralFindingsTheFirst() {
        TowerBraid x = past();
        due("set in a missing row, no place", NULL, x.set(5, -1, 0));
        due("copy of a missing row, no place", NULL, x.copy(5, -1, 0, 0, 1));
        due("copy of two lanes to a missing row", NULL, x.copy(1, 0, 5, 0, 1));
        due("copy of two lanes, no place", STORE, x.copy(0, -1, 1, 0, 1));
        due("climbers of a missing row, no place", NULL, x.climbers(5, -1, 1));
        due("status", 1, x.status());
    }

    @Says("-1000010 less 1 NULL (a ROW that is missing), 2 PLACE (no such place of a ROW), 3 KIND (a STRAND that is not that), 4 SIZE (fewer than none), 5 STORE (ROWS of two LANES).")
    private static void findingsAreTold() {
        TowerBraid x = past();
        due("null", -1000011, x.drop(5));
        due("place", -1000012, x.set(0, 4, 0));
        due("kind", -1000013, x.as(0, 3));
        due("size", -1000014, x.row(0, 0, -1));
        due("store", -1000015, x.copy(0, 0, 1, 0, 1));
    }

    // ---- Terms: what is refused, or found

    @Says("What is refused, or found, changes nothing but status().")
    private static void aRefusedRow() {
        leaves(RefusalEdgeTests::past, "row 8", BAD, x -> x.row(8, 0, 1));
        leaves(RefusalEdgeTests::past, "row of lane 3", BAD, x -> x.row(0, 3, 1));
        leaves(RefusalEdgeTests::past, "row of 41", BAD, x -> x.row(0, 0, 41));
        leaves(RefusalEdgeTests::past, "row of 41, missing", BAD, x -> x.row(5, 0, 41));
        leaves(RefusalEdgeTests::past, "row of -1", SIZE, x -> x.row(0, 0, -1));
        leaves(RefusalEdgeTests::past, "row of -1, missing", SIZE, x -> x.row(5, 0, -1));
    }

    @Says("What is refused, or found, changes nothing but status().")
    private static void aRefusedSet() {
        leaves(RefusalEdgeTests::past, "set in 8", BAD, x -> x.set(8, 0, 1));
        leaves(RefusalEdgeTests::past, "set in a missing one", NULL, x -> x.set(5, 0, 1));
        leaves(RefusalEdgeTests::past, "set behind the end", PLACE, x -> x.set(0, 4, 1));
        leaves(RefusalEdgeTests::past, "set below 0", PLACE, x -> x.set(0, -1, 1));
        leaves(RefusalEdgeTests::past, "set in none", PLACE, x -> x.set(2, 0, 1));
    }

    @Says("What is refused, or found, changes nothing but status().")
    private static void aRefusedCopy() {
        leaves(RefusalEdgeTests::past, "copy from 8", BAD, x -> x.copy(8, 0, 0, 0, 1));
        leaves(RefusalEdgeTests::past, "copy from a missing one", NULL, x -> x.copy(5, 0, 0, 0, 1));
        leaves(RefusalEdgeTests::past, "copy to a missing one", NULL, x -> x.copy(0, 0, 5, 0, 1));
        leaves(RefusalEdgeTests::past, "copy of two lanes", STORE, x -> x.copy(1, 0, 0, 0, 1));
        leaves(RefusalEdgeTests::past, "copy beyond the first's end", PLACE, x -> x.copy(0, 1, 0, 0, 4));
        leaves(RefusalEdgeTests::past, "copy beyond the second's end", PLACE, x -> x.copy(0, 0, 0, 1, 4));
        leaves(RefusalEdgeTests::past, "copy of -1", PLACE, x -> x.copy(0, 2, 0, 0, -1));
    }

    @Says("What is refused, or found, changes nothing but status().")
    private static void aRefusedDrop() {
        leaves(RefusalEdgeTests::past, "drop 8", BAD, x -> x.drop(8));
        leaves(RefusalEdgeTests::past, "drop -1", BAD, x -> x.drop(-1));
        leaves(RefusalEdgeTests::past, "drop of a missing one", NULL, x -> x.drop(5));
    }

    @Says("What is refused, or found, changes nothing but status().")
    private static void aRefusedFeed() {
        leaves(RefusalEdgeTests::past, "feed -1", BAD, x -> x.feed(-1));
        leaves(RefusalEdgeTests::past, "feed 256", BAD, x -> x.feed(256));
        leaves(RefusalEdgeTests::past, "feed of a 1, and 256", BAD, x -> x.feed('1' + 256));
        leaves(RefusalEdgeTests::fullTape, "feed of a full tape", FULL, x -> x.feed('1'));
    }

    @Says("What is refused, or found, changes nothing but status().")
    private static void aRefusedPlait() {
        leaves(RefusalEdgeTests::past, "plait 64", BAD, x -> x.plait(64));
        leaves(RefusalEdgeTests::past, "plait -1", BAD, x -> x.plait(-1));
        leaves(RefusalEdgeTests::past, "plait of one that is gone", STATE, x -> x.plait(3));
        leaves(RefusalEdgeTests::noTower, "plait without a tower", STATE, x -> x.plait(0));
    }

    @Says("What is refused, or found, changes nothing but status().")
    private static void aRefusedClimb() {
        leaves(RefusalEdgeTests::past, "climb 2", BAD, x -> x.climb(2));
        leaves(RefusalEdgeTests::past, "climb -1", BAD, x -> x.climb(-1));
        leaves(RefusalEdgeTests::tooShort, "climb, too short", STATE, x -> x.climb(0));
        leaves(RefusalEdgeTests::notPlaited, "climb, not plaited", STATE, x -> x.climb(0));
        leaves(RefusalEdgeTests::noTower, "climb without a tower", BAD, x -> x.climb(0));
    }

    @Says("What is refused, or found, changes nothing but status().")
    private static void aRefusedDay() {
        leaves(RefusalEdgeTests::noTower, "day without a tower", STATE, TowerBraid::day);
    }

    @Says("What is refused, or found, changes nothing but status().")
    private static void aRefusedCut() {
        leaves(RefusalEdgeTests::past, "cut 0", BAD, x -> x.cut(0));
        leaves(RefusalEdgeTests::past, "cut -1", BAD, x -> x.cut(-1));
        leaves(RefusalEdgeTests::past, "cut 100", BAD, x -> x.cut(100));
        leaves(RefusalEdgeTests::past, "cut by more than it is long", STATE, x -> x.cut(9));
        leaves(RefusalEdgeTests::noTower, "cut without a tower", STATE, x -> x.cut(1));
    }

    @Says("What is refused, or found, changes nothing but status().")
    private static void aRefusedPeg() {
        leaves(RefusalEdgeTests::past, "peg 2", BAD, x -> x.peg(2));
        leaves(RefusalEdgeTests::past, "peg that is there", STATE, x -> x.peg(1));
        leaves(RefusalEdgeTests::noActs, "peg that is gone", STATE, x -> x.peg(0));
        leaves(RefusalEdgeTests::noTower, "peg without a tower", STATE, x -> x.peg(1));
    }

    @Says("What is refused, or found, changes nothing but status().")
    private static void aRefusedUndo() {
        leaves(RefusalEdgeTests::noActs, "undo of none", STATE, TowerBraid::undo);
        leaves(RefusalEdgeTests::noTower, "undo without a tower", STATE, TowerBraid::undo);
    }

    @Says("What is refused, or found, changes nothing but status().")
    private static void aRefusedImage() {
        leaves(RefusalEdgeTests::past, "image 2", BAD, x -> x.image(2));
        leaves(RefusalEdgeTests::past, "image -1", BAD, x -> x.image(-1));
        leaves(RefusalEdgeTests::noTower, "image without a tower", STATE, x -> x.image(0));
    }

    @Says("What is refused, or found, changes nothing but status().")
    private static void aRefusedRestore() {
        leaves(RefusalEdgeTests::past, "restore 2", BAD, x -> x.restore(2));
        leaves(RefusalEdgeTests::past, "restore -1", BAD, x -> x.restore(-1));
        leaves(RefusalEdgeTests::past, "restore of none", STATE, x -> x.restore(1));
        leaves(RefusalEdgeTests::noTower, "restore without a tower", STATE, x -> x.restore(0));
    }

    @Says("What is refused, or found, changes nothing but status().")
    private static void aRefusedAs() {
        leaves(RefusalEdgeTests::past, "as of strand 6", BAD, x -> x.as(6, 0));
        leaves(RefusalEdgeTests::past, "as of kind 6", BAD, x -> x.as(0, 6));
        leaves(RefusalEdgeTests::past, "as of another kind", KIND, x -> x.as(3, 1));
    }

    @Says("What is refused, or found, changes nothing but status().")
    private static void aRefusedAsk() {
        leaves(RefusalEdgeTests::past, "ask of strand 6", BAD, x -> x.ask(6, 0));
        leaves(RefusalEdgeTests::past, "ask of 2", BAD, x -> x.ask(0, 2));
    }

    @Says("What is refused, or found, changes nothing but status().")
    private static void whatIsFoundByClimbers() {
        leaves(RefusalEdgeTests::past, "climbers of a missing row", NULL, x -> x.climbers(5, 0, 1));
        leaves(RefusalEdgeTests::past, "climbers beyond the end", PLACE, x -> x.climbers(0, 0, 3));
        leaves(RefusalEdgeTests::past, "climbers of row 8", BAD, x -> x.climbers(8, 0, 1));
        leaves(RefusalEdgeTests::past, "climbers by 9", BAD, x -> x.climbers(0, 0, 9));
        leaves(RefusalEdgeTests::past, "climbers by no set", BAD, x -> x.climbers(1, 0, 1));
        leaves(RefusalEdgeTests::noTower, "climbers without a tower", STATE, x -> x.climbers(0, 0, 1));
    }

    @Says("What is refused, or found, changes nothing but status().")
    private static void whatIsRefusedOfThoseThatOnlyLook() {
        leaves(RefusalEdgeTests::past, "strand 6", BAD, x -> x.strand(6, 0));
        leaves(RefusalEdgeTests::past, "climber 2", BAD, x -> x.climber(2, 0));
        leaves(RefusalEdgeTests::past, "due 100", BAD, x -> x.due(100));
        leaves(RefusalEdgeTests::past, "borne 2", BAD, x -> x.borne(2, 1));
        leaves(RefusalEdgeTests::past, "borne by one that is gone", STATE, x -> x.borne(0, 2));
        leaves(RefusalEdgeTests::past, "plan 4", BAD, x -> x.plan(4, 0));
        leaves(RefusalEdgeTests::past, "needed 2", BAD, x -> x.needed(2));
        leaves(RefusalEdgeTests::past, "strongest 3", BAD, x -> x.strongest(3));
        leaves(RefusalEdgeTests::past, "comes 0", BAD, x -> x.comes(0, 0));
        leaves(RefusalEdgeTests::past, "climbed 100", BAD, x -> x.climbed(100));
        leaves(RefusalEdgeTests::past, "storm 11", BAD, x -> x.storm(0, 11, 0));
        leaves(RefusalEdgeTests::past, "kind 6", BAD, x -> x.kind(6));
        leaves(RefusalEdgeTests::past, "trace 16", NONE, x -> x.trace(16));
        leaves(RefusalEdgeTests::past, "count 10", BAD, x -> x.count(10));
    }

    // ---- Terms: foretold

    @Says("3 FORETOLD (nothing changes).")
    private static void nothingChangesByWhatIsForetold() {
        leaves(RefusalEdgeTests::past, "due", 2, x -> x.due(2));
        leaves(RefusalEdgeTests::past, "borne", 1, x -> x.borne(0, 1));
        leaves(RefusalEdgeTests::past, "never", NONE, TowerBraid::never);
        leaves(RefusalEdgeTests::past, "needed", 0, x -> x.needed(0));
        leaves(RefusalEdgeTests::past, "strongest", 99, x -> x.strongest(0));
        leaves(RefusalEdgeTests::past, "stoutest", 4, x -> x.strongest(1));
        leaves(RefusalEdgeTests::past, "cutMost", 3, TowerBraid::cutMost);
        leaves(RefusalEdgeTests::past, "comes", 2, x -> x.comes(0, 1));
        leaves(RefusalEdgeTests::past, "climbed", 1, x -> x.climbed(7));
        leaves(RefusalEdgeTests::past, "storm", 973, x -> x.storm(0, 3, 0));
    }

    @Says("3 FORETOLD (nothing changes).")
    private static void nothingChangesByPlans() {
        for (int days = 1; days <= 3; days++) {
            int d = days;
            int wear = new int[] {1, 1, 2}[d - 1];
            leaves(RefusalEdgeTests::past, "plan of " + d, wear, x -> x.plan(d, -1));
        }
    }

    @Says("3 FORETOLD (nothing changes).")
    private static void onlyTheStatusChangesByClimbers() {
        TowerBraid x = past();
        TowerBraid y = past();
        due("climbers", 1, x.climbers(0, 0, 2));
        due("status", 0, x.status());
        due("status of the other", 3, y.status());
        List<Integer> before = look(y);
        List<Integer> seen = look(x);
        for (int i = 0; i < before.size(); i++) {
            due("look " + i, before.get(i), seen.get(i));
        }
    }

    @Says("An object is used for at most 512 calls after it has been made")
    private static void looksKeepToSoManyCalls() {
        int past = TOLD.length() + 24 + 9 + 30;
        int look = look(past()).size();
        Checks.isTrue("calls: " + (past + look + 8), past + look + 8 <= 512);
    }
}
