import java.util.Random;

/** Runs of calls, by seeds that are always the same, on the class and on the model: one answer is due. */
final class ModelTests {
    private static final int RUNS = 300;
    private static final int CALLS = 512;
    /** As many calls as one step can make at most. */
    private static final int STEP = 95;
    private static final int[] WRONG = {-1, 99, 100, 64, 41, 7, 6, 8, Integer.MAX_VALUE, Integer.MIN_VALUE};

    /** Numbers at the edges of all that the document tells. */
    private static final int[] ODD = {
        Integer.MIN_VALUE, Integer.MIN_VALUE + 1, -65536, -256, -100, -64, -41, -9, -8, -6, -5, -3, -2, -1,
        0, 1, 2, 3, 4, 5, 6, 7, 8, 9, 10, 11, 20, 21, 39, 40, 41, 62, 63, 64, 65, 98, 99, 100, 101, 119, 120,
        121, 127, 128, 255, 256, 257, 32767, 32768, 65535, 65536, 1 << 30, Integer.MAX_VALUE - 1, Integer.MAX_VALUE,
    };

    private final Random random;
    private final TowerBraid x = new TowerBraid();
    private final Model model = new Model();
    private final int run;
    private int calls;

    private ModelTests(int run) {
        this.run = run;
        random = new Random(run);
    }

    public static void main(String[] args) {
        for (int run = 0; run < RUNS && Checks.wrongs() < 20; run++) {
            new ModelTests(run).go();
        }
        Checks.finish();
    }

    private void go() {
        if (random.nextInt(10) != 0) {
            feedTower();
        }
        while (calls < CALLS - STEP && Checks.wrongs() < 20) {
            callOne();
        }
    }

    private int upTo(int n) {
        return random.nextInt(n + 1);
    }

    private int between(int least, int most) {
        return least + random.nextInt(most - least + 1);
    }

    /** Mostly 0 to most, now and then something else. */
    private int some(int most) {
        return random.nextInt(25) == 0 ? WRONG[random.nextInt(WRONG.length)] : upTo(most);
    }

    private void due(String call, int want, int got) {
        calls++;
        Checks.due("run " + run + ", call " + calls + ": " + call, want, got);
    }

    private void feedTower() {
        StringBuilder text = new StringBuilder();
        int high = between(1, 40);
        text.append('t').append(high).append(',').append(Math.min(99, Math.max(1, high + between(-4, 30)))).append(';');
        int bears = random.nextBoolean() ? 99 : between(5, 60);
        for (int s = random.nextInt(4) == 0 ? upTo(6) : between(3, 6); s > 0; s--) {
            text.append("hsgrw".charAt(upTo(4))).append(between(1, bears)).append(';');
        }
        int weight = random.nextBoolean() ? 99 : between(5, 60);
        int every = between(1, 9);
        for (int c = random.nextInt(4) == 0 ? upTo(5) : between(1, 4); c > 0; c--) {
            int each = between(1, every);
            text.append('c').append(between(1, weight)).append(',').append(each).append(',').append(upTo(each - 1)).append(';');
        }
        if (random.nextInt(3) == 0) {
            spoil(text);
        }
        for (int i = 0; i < text.length(); i++) {
            int letter = text.charAt(i);
            due("feed " + letter, model.feed(letter), x.feed(letter));
        }
        due("tower " + text, model.tower(), x.tower());
        due("fault", model.fault(), x.fault());
    }

    private void spoil(StringBuilder text) {
        int at = upTo(text.length() - 1);
        String signs = "thsgrwc,;0123456789 xT";
        char sign = signs.charAt(upTo(signs.length() - 1));
        switch (upTo(4)) {
            case 0 -> text.setCharAt(at, sign);
            case 1 -> text.insert(at, sign);
            case 2 -> text.deleteCharAt(at);
            case 3 -> text.setLength(at);
            default -> text.append(random.nextBoolean() ? "h1;" : "c1,1,0;");
        }
    }

    private void callOne() {
        int group = upTo(99);
        if (group < 1) {
            feedTower();
        } else if (group < 12) {
            callRow();
        } else if (group < 13) {
            readRow();
        } else if (group < 18) {
            callOdd();
        } else if (group < 50) {
            callAct();
        } else if (group < 86) {
            callForetold();
        } else if (group < 98) {
            callAsked();
        } else {
            lookAtAll();
        }
    }

    private void callRow() {
        int row = some(2);
        int other = some(2);
        int i = some(16);
        int j = some(16);
        int n = some(16);
        switch (upTo(4)) {
            case 0 -> due("row " + row + " " + other + " " + n, model.row(row, other, n), x.row(row, other, n));
            case 1 -> due("copy " + row + " " + i + " " + other + " " + j + " " + n,
                    model.copy(row, i, other, j, n), x.copy(row, i, other, j, n));
            case 2 -> {
                if (upTo(4) == 0) {
                    due("drop " + row, model.drop(row), x.drop(row));
                }
            }
            default -> {
                int v = upTo(5) == 0 ? random.nextInt() : upTo(1) == 0 ? upTo(40) : model.climber(upTo(4), 0);
                due("set " + row + " " + i + " " + v, model.set(row, i, v), x.set(row, i, v));
            }
        }
    }

    /** Items of a row, each copied to row 7 and looked at as the strain of a strand. */
    private void readRow() {
        int row = upTo(2);
        int lane = upTo(2);
        due("row 7 " + lane + " 2", model.row(7, lane, 2), x.row(7, lane, 2));
        due("set 7 0 1", model.set(7, 0, 1), x.set(7, 0, 1));
        for (int i = 0; i < 14; i++) {
            due("copy " + row + " " + i + " 7 1 1", model.copy(row, i, 7, 1, 1), x.copy(row, i, 7, 1, 1));
            due("climbers 7 0 1", model.climbers(7, 0, 1), x.climbers(7, 0, 1));
        }
    }

    private void callAct() {
        switch (upTo(11)) {
            case 0, 1, 2 -> {
                int set = random.nextInt(3) == 0 ? some(63) : leftOf(upTo(63));
                due("plait " + set, model.plait(set), x.plait(set));
            }
            case 3, 4, 5, 6 -> {
                int climber = some(4);
                due("climb " + climber, model.climb(climber), x.climb(climber));
            }
            case 7 -> due("day", model.day(), x.day());
            case 8 -> {
                int n = random.nextInt(3) == 0 ? some(99) : between(1, 3);
                due("cut " + n, model.cut(n), x.cut(n));
            }
            case 9 -> {
                int is = some(1);
                due("peg " + is, model.peg(is), x.peg(is));
            }
            case 10 -> {
                for (int times = upTo(random.nextInt(8) == 0 ? 26 : 3); times > 0; times--) {
                    due("undo", model.undo(), x.undo());
                }
            }
            default -> {
                int k = some(1);
                if (upTo(2) != 0) {
                    due("image " + k, model.image(k), x.image(k));
                } else {
                    due("restore " + k, model.restore(k), x.restore(k));
                }
            }
        }
    }

    private int leftOf(int set) {
        int left = 0;
        for (int s = 0; s < model.count(1); s++) {
            left |= model.strand(s, 2) == 0 ? set & 1 << s : 0;
        }
        return left;
    }

    private void callForetold() {
        int c = some(4);
        int set = random.nextBoolean() ? some(63) : leftOf(upTo(63));
        switch (upTo(13)) {
            case 0 -> {
                if (upTo(3) == 0) {
                    due("never", model.never(), x.never());
                }
            }
            case 1 -> callPlan(upTo(5) == 0 ? 3 : some(2));
            case 2 -> callPlan(1);
            case 3 -> due("needed " + c, model.needed(c), x.needed(c));
            case 4 -> due("cutMost", model.cutMost(), x.cutMost());
            case 5 -> due("borne " + c + " " + set, model.borne(c, set), x.borne(c, set));
            case 6 -> {
                int what = some(2);
                due("strongest " + what, model.strongest(what), x.strongest(what));
            }
            case 7 -> {
                int d = some(99);
                due("due " + d, model.due(d), x.due(d));
            }
            case 8 -> {
                int n = some(20);
                due("comes " + c + " " + n, model.comes(c, n), x.comes(c, n));
            }
            case 9 -> {
                int strain = random.nextBoolean() ? some(99) : Math.max(0, model.climber(c, 5));
                due("climbed " + strain, model.climbed(strain), x.climbed(strain));
            }
            case 10, 11 -> callClimbers();
            default -> {
                int tenths = some(10);
                int what = some(1);
                due("storm " + c + " " + tenths + " " + what, model.storm(c, tenths, what), x.storm(c, tenths, what));
            }
        }
    }

    private void callPlan(int d) {
        for (int k = -1; k < Math.min(d, 4); k++) {
            int day = random.nextInt(20) == 0 ? some(4) : k;
            due("plan " + d + " " + day, model.plan(d, day), x.plan(d, day));
        }
    }

    /** A row of strains that some climber would make, more often than not. */
    private void callClimbers() {
        int row = some(2);
        int i = some(8);
        int n = random.nextInt(4) == 0 ? some(8) : between(1, 3);
        int c = upTo(3);
        int weight = model.climber(c, 0);
        for (int p = 0; p < n && p < 4 && i >= 0 && i < 9 && weight > 0 && random.nextInt(8) != 0; p++) {
            int set = between(1, 63);
            int many = Integer.bitCount(set);
            int strain = random.nextInt(8) == 0 ? upTo(99) : (weight + many - 1) / many;
            due("set " + row + " " + (i + 2 * p) + " " + set, model.set(row, i + 2 * p, set), x.set(row, i + 2 * p, set));
            due("set " + row + " " + (i + 2 * p + 1) + " " + strain,
                    model.set(row, i + 2 * p + 1, strain), x.set(row, i + 2 * p + 1, strain));
        }
        due("climbers " + row + " " + i + " " + n, model.climbers(row, i, n), x.climbers(row, i, n));
    }

    private void callAsked() {
        int s = some(5);
        switch (upTo(7)) {
            case 0 -> due("kind " + s, model.kind(s), x.kind(s));
            case 1, 2 -> {
                int kind = some(5);
                due("as " + s + " " + kind, model.as(s, kind), x.as(s, kind));
                due("status", model.status(), x.status());
            }
            case 3, 4 -> {
                int what = some(1);
                due("ask " + s + " " + what, model.ask(s, what), x.ask(s, what));
                for (int i = 0; i < 7; i++) {
                    due("trace " + i, model.trace(i), x.trace(i));
                }
            }
            case 5 -> {
                int i = some(16);
                due("trace " + i, model.trace(i), x.trace(i));
            }
            case 6 -> {
                int what = some(10);
                due("count " + what, model.count(what), x.count(what));
            }
            default -> due("status", model.status(), x.status());
        }
    }

    /** Mostly an edge, now and then a small number. */
    private int odd() {
        return random.nextInt(3) == 0 ? upTo(5) : ODD[random.nextInt(ODD.length)];
    }

    private void callOdd() {
        int a = odd();
        int b = odd();
        int c = odd();
        String args = " " + a + " " + b + " " + c;
        switch (upTo(27)) {
            case 0 -> due("row" + args, model.row(a, b, c), x.row(a, b, c));
            case 1 -> due("set" + args, model.set(a, b, c), x.set(a, b, c));
            case 2, 3 -> {
                int i = odd();
                int n = odd();
                due("copy " + a + " " + i + " " + b + " " + c + " " + n, model.copy(a, i, b, c, n), x.copy(a, i, b, c, n));
            }
            case 4 -> due("drop" + args, model.drop(a), x.drop(a));
            case 5 -> due("feed" + args, model.feed(a), x.feed(a));
            case 6 -> due("plait" + args, model.plait(a), x.plait(a));
            case 7 -> due("climb" + args, model.climb(a), x.climb(a));
            case 8 -> due("cut" + args, model.cut(a), x.cut(a));
            case 9 -> due("peg" + args, model.peg(a), x.peg(a));
            case 10 -> due("strand" + args, model.strand(a, b), x.strand(a, b));
            case 11 -> due("climber" + args, model.climber(a, b), x.climber(a, b));
            case 12 -> due("due" + args, model.due(a), x.due(a));
            case 13 -> due("borne" + args, model.borne(a, b), x.borne(a, b));
            case 14 -> due("plan" + args, model.plan(a, b), x.plan(a, b));
            case 15 -> due("needed" + args, model.needed(a), x.needed(a));
            case 16 -> due("strongest" + args, model.strongest(a), x.strongest(a));
            case 17 -> due("comes" + args, model.comes(a, b), x.comes(a, b));
            case 18 -> due("climbed" + args, model.climbed(a), x.climbed(a));
            case 19, 20 -> due("climbers" + args, model.climbers(a, b, c), x.climbers(a, b, c));
            case 21 -> due("storm" + args, model.storm(a, b, c), x.storm(a, b, c));
            case 22 -> due("image" + args, model.image(a), x.image(a));
            case 23 -> due("restore" + args, model.restore(a), x.restore(a));
            case 24 -> due("kind" + args, model.kind(a), x.kind(a));
            case 25 -> due("as" + args, model.as(a, b), x.as(a, b));
            case 26 -> due("ask" + args, model.ask(a, b), x.ask(a, b));
            default -> {
                due("trace" + args, model.trace(a), x.trace(a));
                due("count" + args, model.count(b), x.count(b));
            }
        }
        due("status behind" + args, model.status(), x.status());
    }

    private void lookAtAll() {
        for (int what = 0; what < 10; what++) {
            due("count " + what, model.count(what), x.count(what));
        }
        for (int s = 0; s < 6; s++) {
            for (int what = 1; what < 4; what++) {
                due("strand " + s + " " + what, model.strand(s, what), x.strand(s, what));
            }
        }
        for (int c = 0; c < 5; c++) {
            for (int what = 3; what < 6; what++) {
                due("climber " + c + " " + what, model.climber(c, what), x.climber(c, what));
            }
        }
        int what = some(6);
        due("climber 0 " + what, model.climber(0, what), x.climber(0, what));
        due("strand 0 " + what, model.strand(0, what), x.strand(0, what));
        due("fault", model.fault(), x.fault());
        due("status", model.status(), x.status());
    }
}
