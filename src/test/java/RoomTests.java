import java.lang.management.ManagementFactory;
import java.util.function.ToIntBiFunction;

/** All calls of a run live in one room: a run of 512 calls of one kind stays well within it. */
final class RoomTests {
    private static final com.sun.management.ThreadMXBean BEAN =
            (com.sun.management.ThreadMXBean) ManagementFactory.getThreadMXBean();
    private static final int CALLS = 512;
    /** 7.3 million fields and elements of four bytes, and some of 600,000 objects beside them. */
    private static final long ROOM = 30_000_000;
    private static final String TOLD = "t9,30;h30;s12;g25;r18;w15;h9;c40,1,0;c55,3,2;c20,2,1;c90,9,4;";

    private static int answers = 0;

    private RoomTests() {
    }

    public static void main(String[] args) {
        run("row", (x, i) -> x.row(2, i % 3, i % 41));
        run("set", (x, i) -> x.set(0, i % 41, i));
        run("copy", (x, i) -> x.copy(0, 0, 1, i % 41, 4));
        run("row and drop", (x, i) -> i % 2 == 0 ? x.row(2, 0, 40) : x.drop(2));
        run("plait", (x, i) -> x.plait(i & 63));
        run("climb", (x, i) -> i % 3 == 0 ? x.plait(48) : i % 3 == 1 ? x.climb(2) : x.undo());
        run("day", (x, i) -> x.day());
        run("cut", (x, i) -> i % 2 == 0 ? x.cut(1) : x.undo());
        run("peg", (x, i) -> x.peg(i & 1));
        run("plan", (x, i) -> i % 2 == 0 ? x.day() : x.plan(3, -1));
        run("never", (x, i) -> i % 2 == 0 ? x.day() : x.never());
        run("needed", (x, i) -> x.needed(i & 3));
        run("strongest", (x, i) -> x.strongest(i % 3));
        run("cutMost", (x, i) -> x.cutMost());
        run("comes", (x, i) -> x.comes(i & 3, 1 + i % 20));
        run("storm", (x, i) -> i % 2 == 0 ? x.plait(i & 63) : x.storm(i & 3, i % 11, 0));
        run("climbers", (x, i) -> x.climbers(0, 0, 1 + i % 8));
        run("ask", (x, i) -> x.ask(i % 6, i & 1));
        run("image", (x, i) -> i % 2 == 0 ? x.image(i >> 1 & 1) : x.restore(i >> 1 & 1));
        run("tower", (x, i) -> i % 7 == 6 ? x.tower() : x.feed("t1,1;c".charAt(i % 7)));
        Checks.isTrue("answers are used", answers != 0);
        Checks.finish();
    }

    private static TowerBraid told() {
        TowerBraid x = new TowerBraid();
        for (int i = 0; i < TOLD.length(); i++) {
            x.feed(TOLD.charAt(i));
        }
        x.tower();
        x.row(0, 0, 40);
        x.row(1, 0, 40);
        for (int i = 0; i < 40; i++) {
            x.set(0, i, i % 2 == 0 ? 13 : 14);
        }
        return x;
    }

    private static void run(String name, ToIntBiFunction<TowerBraid, Integer> call) {
        bytes();
        long before = bytes();
        TowerBraid x = told();
        for (int i = TOLD.length() + 43; i < CALLS; i++) {
            answers += call.applyAsInt(x, i);
        }
        long taken = bytes() - before;
        Checks.isTrue("a run of " + name + " takes " + taken, taken <= ROOM);
    }

    private static long bytes() {
        return BEAN.getThreadAllocatedBytes(Thread.currentThread().getId());
    }
}
