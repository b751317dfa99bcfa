import java.lang.management.ManagementFactory;
import java.util.function.IntUnaryOperator;

/** All calls of a run live in one room: a new object takes little of it, a call nothing. */
final class RoomTests {
    private static final com.sun.management.ThreadMXBean BEAN =
            (com.sun.management.ThreadMXBean) ManagementFactory.getThreadMXBean();
    private static final int CALLS = 512;
    private static final long NEW_OBJECT = 32000;
    private static final long ALL_CALLS = 4096;

    private static int answers = 0;

    private RoomTests() {
    }

    public static void main(String[] args) {
        bytesOfNewObjects();
        TowerBraid x = told("t9,30;h30;s12;g25;r18;w15;h9;c40,1,0;c55,3,2;c20,2,1;c90,9,4;");
        x.row(0, 0, 40);
        x.row(1, 0, 40);
        x.set(0, 0, 13);
        x.set(0, 1, 14);
        takesNothing("row", i -> x.row(2, i % 3, i % 41));
        takesNothing("set", i -> x.set(2, i % 41, i));
        takesNothing("copy", i -> x.copy(0, 0, 1, i % 41, 4));
        takesNothing("drop", i -> x.drop(2 + i % 2));
        takesNothing("plait", i -> x.plait(i & 63));
        takesNothing("climb", i -> x.plait(48) + x.climb(2) + x.undo());
        takesNothing("day", i -> x.day() + x.undo());
        takesNothing("cut", i -> x.cut(1) + x.undo());
        takesNothing("peg", i -> x.peg(i & 1));
        takesNothing("plan", i -> x.day() + x.plan(3, -1) + x.undo());
        takesNothing("never", i -> x.never());
        takesNothing("needed", i -> x.needed(i & 3));
        takesNothing("strongest", i -> x.strongest(i % 3));
        takesNothing("storm", i -> x.storm(0, i % 11, 0));
        takesNothing("climbers", i -> x.climbers(0, 0, 1));
        takesNothing("ask", i -> x.ask(i % 6, i & 1) + x.trace(1));
        takesNothing("image", i -> x.image(i & 1) + x.restore(i & 1));
        takesNothing("tower", i -> x.feed('t') + x.tower());
        Checks.isTrue("answers are used", answers != 0);
        Checks.finish();
    }

    private static TowerBraid told(String text) {
        TowerBraid x = new TowerBraid();
        for (int i = 0; i < text.length(); i++) {
            x.feed(text.charAt(i));
        }
        x.tower();
        return x;
    }

    private static void bytesOfNewObjects() {
        new TowerBraid();
        long before = bytes();
        answers += new TowerBraid().count(0);
        long taken = bytes() - before;
        Checks.isTrue("a new object takes " + taken, taken <= NEW_OBJECT);
    }

    private static void takesNothing(String name, IntUnaryOperator call) {
        answers += call.applyAsInt(0);
        bytes();
        long before = bytes();
        for (int i = 0; i < CALLS; i++) {
            answers += call.applyAsInt(i);
        }
        long taken = bytes() - before;
        Checks.isTrue(CALLS + " calls of " + name + " take " + taken, taken <= ALL_CALLS);
    }

    private static long bytes() {
        return BEAN.getThreadAllocatedBytes(Thread.currentThread().getId());
    }
}
