/** Counts and prints the answers that are not as due, and ends with exit code 1 if there was one. */
final class Checks {
    private static final long SECONDS = 120;

    private static String within = "";
    private static int asked = 0;
    private static int wrong = 0;

    static {
        watch();
    }

    private Checks() {
    }

    /** What is printed from now on belongs to a test of this name. */
    static void begin(String test) {
        within = test + ": ";
    }

    static void due(String call, long want, long got) {
        asked++;
        if (got != want) {
            wrong++;
            System.out.println(within + call + " answered " + got + ", due is " + want);
        }
    }

    static void isTrue(String what, boolean is) {
        due(what, 1, is ? 1 : 0);
    }

    static int wrongs() {
        return wrong;
    }

    static int asked() {
        return asked;
    }

    static void finish() {
        System.out.println(asked + " answers, " + wrong + " not as due");
        if (wrong != 0) {
            System.exit(1);
        }
    }

    /** A call that never ends fails, too. */
    private static void watch() {
        Thread watcher = new Thread(() -> {
            try {
                Thread.sleep(SECONDS * 1000);
            } catch (InterruptedException e) {
                return;
            }
            System.out.println(within + "no end within " + SECONDS + " seconds");
            Runtime.getRuntime().halt(1);
        });
        watcher.setDaemon(true);
        watcher.start();
    }
}
