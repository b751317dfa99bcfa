import java.math.BigInteger;
import java.util.ArrayDeque;
import java.util.ArrayList;
import java.util.Arrays;
import java.util.List;
import java.util.TreeMap;
import java.util.TreeSet;

/**
 * The document once more, as plainly and as unlike the class as it can be told: by searching for
 * what is asked, without any thought of speed. ModelTests compares both.
 */
final class Model {
    private static final int NONE = -1000000, BAD = -1000001, STATE = -1000002, FULL = -1000003;

    private final TreeMap<Integer, Row> rows = new TreeMap<>();
    private final StringBuilder tape = new StringBuilder();
    private final List<Integer> trace = new ArrayList<>();
    private final ArrayDeque<Tower> acts = new ArrayDeque<>();
    private final Tower[] images = new Tower[2];
    private Tower now;
    private int latestFault;
    private int latestFinding;

    private record Row(int lane, int[] items) {
    }

    private record Climber(int weight, int every, int off) {
    }

    // ---- strands by their kinds

    private interface Strand {
        Facts facts();

        default int size(List<Integer> trace) {
            trace.add(10);
            return facts().bears;
        }

        default int mark(List<Integer> trace) {
            trace.add(20);
            return facts().number;
        }

        default int moreWear(int share) {
            return 0;
        }
    }

    private static final class Facts {
        int number, bears, worn;
    }

    private abstract static class Known implements Strand {
        private final Facts facts = new Facts();

        @Override
        public Facts facts() {
            return facts;
        }
    }

    private static class Hair extends Known {
        @Override
        public int size(List<Integer> trace) {
            trace.add(11);
            return super.size(trace) + mark(trace);
        }

        @Override
        public int mark(List<Integer> trace) {
            trace.add(21);
            return super.mark(trace) + facts().worn;
        }

        @Override
        public int moreWear(int share) {
            return share / 10;
        }
    }

    private static final class Silk extends Hair {
        @Override
        public int size(List<Integer> trace) {
            trace.add(12);
            return 0 - super.size(trace);
        }

        @Override
        public int mark(List<Integer> trace) {
            trace.add(24);
            return 2 * super.mark(trace);
        }

        @Override
        public int moreWear(int share) {
            return 0;
        }
    }

    private static final class Grey extends Hair {
        @Override
        public int mark(List<Integer> trace) {
            trace.add(22);
            return super.mark(trace) - 1000;
        }

        @Override
        public int moreWear(int share) {
            return 2 * super.moreWear(share);
        }
    }

    private static class Rope extends Known {
        @Override
        public int size(List<Integer> trace) {
            trace.add(13);
            return super.size(trace) - 100;
        }

        @Override
        public int mark(List<Integer> trace) {
            trace.add(23);
            int lent = super.mark(trace);
            return lent - size(trace);
        }

        @Override
        public int moreWear(int share) {
            return 1;
        }
    }

    private static final class Twine extends Rope {
        @Override
        public int size(List<Integer> trace) {
            trace.add(14);
            return 2 * super.size(trace);
        }

        @Override
        public int moreWear(int share) {
            return 1 + share / 20;
        }
    }

    private static final List<Class<? extends Strand>> KINDS =
            List.of(Strand.class, Hair.class, Silk.class, Grey.class, Rope.class, Twine.class);

    private static Strand strandOf(char sort, int number, int bears, int worn) {
        Strand made = switch (sort) {
            case 'h' -> new Hair();
            case 's' -> new Silk();
            case 'g' -> new Grey();
            case 'r' -> new Rope();
            default -> new Twine();
        };
        made.facts().number = number;
        made.facts().bears = bears;
        made.facts().worn = worn;
        return made;
    }

    // ---- the tower

    private static final class Tower {
        int high, length, today;
        boolean peg;
        final StringBuilder sorts = new StringBuilder();
        final List<Strand> strands = new ArrayList<>();
        final List<Climber> climbers = new ArrayList<>();
        final List<Integer> fell = new ArrayList<>();
        TreeSet<Integer> plait = new TreeSet<>();
        TreeSet<Integer> gone = new TreeSet<>();

        Tower again() {
            Tower other = new Tower();
            other.high = high;
            other.length = length;
            other.today = today;
            other.peg = peg;
            for (Strand s : strands) {
                Facts f = s.facts();
                other.add(sorts.charAt(f.number), f.bears, f.worn);
            }
            other.climbers.addAll(climbers);
            other.fell.addAll(fell);
            other.plait = new TreeSet<>(plait);
            other.gone = new TreeSet<>(gone);
            return other;
        }

        void add(char sort, int bears, int worn) {
            strands.add(strandOf(sort, strands.size(), bears, worn));
            sorts.append(sort);
        }

        int share(int weight, int many) {
            int pull = peg ? weight - weight / 2 : weight;
            int share = 0;
            while (share * many < pull) {
                share++;
            }
            return share;
        }

        boolean holds(int s, int share, int many) {
            Facts f = strands.get(s).facts();
            int bears = strands.get(s) instanceof Twine && many == 1 ? f.bears + f.bears : f.bears;
            return share <= bears - f.worn;
        }

        boolean bears(int weight, TreeSet<Integer> set) {
            if (set.isEmpty()) {
                return false;
            }
            int share = share(weight, set.size());
            return set.stream().allMatch(s -> holds(s, share, set.size()));
        }

        boolean isDue(int c, int day) {
            return day % climbers.get(c).every == climbers.get(c).off;
        }

        int wornInAll() {
            return strands.stream().mapToInt(s -> s.facts().worn).sum();
        }

        /** How many break; the plait is what is left then. */
        int climb(int c) {
            int broken = 0;
            while (!plait.isEmpty()) {
                int many = plait.size();
                int share = share(climbers.get(c).weight, many);
                List<Integer> breaking = new ArrayList<>();
                for (int s : plait) {
                    if (!holds(s, share, many)) {
                        breaking.add(s);
                    }
                }
                if (breaking.isEmpty()) {
                    plait.forEach(s -> strands.get(s).facts().worn += strands.get(s).moreWear(share));
                    return broken;
                }
                plait.removeAll(breaking);
                gone.addAll(breaking);
                broken += breaking.size();
            }
            fell.set(c, fell.get(c) + 1);
            return broken;
        }
    }

    private static TreeSet<Integer> setOf(int bits) {
        TreeSet<Integer> set = new TreeSet<>();
        for (int s = 0; s < 32; s++) {
            if ((bits & 1 << s) != 0) {
                set.add(s);
            }
        }
        return set;
    }

    private static int bitsOf(Iterable<Integer> set) {
        int bits = 0;
        for (int s : set) {
            bits |= 1 << s;
        }
        return bits;
    }

    private boolean noSet(int set) {
        return set < 0 || set >= Math.pow(2, now == null ? 0 : now.strands.size());
    }

    private boolean noStrand(int s) {
        return now == null || s < 0 || s >= now.strands.size();
    }

    private boolean noClimber(int c) {
        return now == null || c < 0 || c >= now.climbers.size();
    }

    private boolean anyGone(int set) {
        return setOf(set).stream().anyMatch(now.gone::contains);
    }

    private static boolean notIn(int n, int least, int most) {
        return n < least || n > most;
    }

    private int found(int finding) {
        latestFinding = finding;
        return -1000010 - finding;
    }

    private int fine(int answer) {
        latestFinding = 0;
        return answer;
    }

    // ---- rows

    int row(int row, int lane, int n) {
        if (notIn(row, 0, 7) || notIn(lane, 0, 2) || n > 40) {
            return BAD;
        }
        if (n < 0) {
            return found(4);
        }
        rows.put(row, new Row(lane, new int[n]));
        return fine(n);
    }

    int set(int row, int i, int v) {
        if (notIn(row, 0, 7)) {
            return BAD;
        }
        if (!rows.containsKey(row)) {
            return found(1);
        }
        int[] items = rows.get(row).items;
        if (notIn(i, 0, items.length - 1)) {
            return found(2);
        }
        int away = new int[] {24, 16, 0}[rows.get(row).lane];
        items[i] = v << away >> away;
        return fine(items[i]);
    }

    int copy(int a, int i, int b, int j, int n) {
        if (notIn(a, 0, 7) || notIn(b, 0, 7)) {
            return BAD;
        }
        if (!rows.containsKey(a) || !rows.containsKey(b)) {
            return found(1);
        }
        if (rows.get(a).lane != rows.get(b).lane) {
            return found(5);
        }
        int[] from = rows.get(a).items.clone();
        int[] to = rows.get(b).items;
        if (i < 0 || j < 0 || n < 0 || (long) i + n > from.length || (long) j + n > to.length) {
            return found(2);
        }
        for (int k = 0; k < n; k++) {
            to[j + k] = from[i + k];
        }
        return fine(n);
    }

    int drop(int row) {
        if (notIn(row, 0, 7)) {
            return BAD;
        }
        return rows.containsKey(row) ? fine(rows.remove(row).items.length) : found(1);
    }

    // ---- towers, acts

    int feed(int letter) {
        if (notIn(letter, 0, 255)) {
            return BAD;
        }
        if (tape.length() == 120) {
            return FULL;
        }
        tape.append((char) letter);
        return tape.length();
    }

    /** A reader by tokens: a letter, a number, a sign, or one that is none ('?'); '.' is the end. */
    private static final class Reading {
        final String text;
        int at;
        int fault;
        int number;

        Reading(String text) {
            this.text = text;
        }

        String token() {
            if (at == text.length()) {
                return ".";
            }
            int end = at;
            while (end < text.length() && text.charAt(end) >= '0' && text.charAt(end) <= '9') {
                end++;
            }
            if (end == at) {
                String one = text.substring(at, at + 1);
                return one.matches("[a-z,;]") ? one : "?";
            }
            return end - at > 2 ? "?" : text.substring(at, end);
        }

        boolean sign(String sign) {
            if (fault == 0 && token().equals(sign)) {
                at++;
            } else if (fault == 0) {
                fault = 1;
            }
            return fault == 0;
        }

        boolean number(int least, int most) {
            if (fault == 0 && !token().matches("[0-9]+")) {
                fault = 1;
            }
            if (fault == 0) {
                number = Integer.parseInt(token());
                if (notIn(number, least, most)) {
                    fault = 2;
                } else {
                    at += token().length();
                }
            }
            return fault == 0;
        }
    }

    int tower() {
        Reading text = new Reading(tape.toString());
        tape.setLength(0);
        Tower made = new Tower();
        boolean law = text.sign("t") && text.number(1, 99);
        made.high = text.number;
        law = law && text.sign(",") && text.number(1, 99);
        made.length = text.number;
        law = law && text.sign(";");
        while (text.fault == 0 && text.token().matches("[hsgrw]")) {
            char sort = text.token().charAt(0);
            if (made.strands.size() == 6) {
                text.fault = 3;
            } else if (text.sign("" + sort) && text.number(1, 99)) {
                made.add(sort, text.number, 0);
                text.sign(";");
            }
        }
        while (text.fault == 0 && text.token().equals("c")) {
            if (made.climbers.size() == 5) {
                text.fault = 3;
            } else {
                readClimber(text, made);
            }
        }
        if (text.fault == 0 && !text.token().equals(".")) {
            text.fault = 1;
        }
        if (text.fault != 0) {
            latestFault = text.fault;
            return -1000100 - text.at;
        }
        now = made;
        acts.clear();
        return made.climbers.size();
    }

    private static void readClimber(Reading text, Tower made) {
        int[] told = new int[3];
        boolean fine = text.sign("c") && text.number(1, 99);
        told[0] = text.number;
        fine = fine && text.sign(",") && text.number(1, 9);
        told[1] = text.number;
        fine = fine && text.sign(",") && text.number(0, told[1] - 1);
        told[2] = text.number;
        if (fine && text.sign(";")) {
            made.climbers.add(new Climber(told[0], told[1], told[2]));
            made.fell.add(0);
        }
    }

    int fault() {
        return latestFault;
    }

    private void act() {
        acts.addLast(now.again());
        if (acts.size() > 24) {
            acts.removeFirst();
        }
    }

    int plait(int set) {
        if (now == null) {
            return STATE;
        }
        if (noSet(set)) {
            return BAD;
        }
        if (anyGone(set)) {
            return STATE;
        }
        act();
        now.plait = setOf(set);
        return now.plait.size();
    }

    int climb(int c) {
        if (noClimber(c)) {
            return BAD;
        }
        if (now.length < now.high || now.plait.isEmpty()) {
            return STATE;
        }
        act();
        return now.climb(c);
    }

    int day() {
        if (now == null) {
            return STATE;
        }
        if (now.today == 999) {
            return FULL;
        }
        act();
        if (now.length < 99) {
            now.length++;
        }
        return ++now.today;
    }

    int cut(int n) {
        if (now == null) {
            return STATE;
        }
        if (notIn(n, 1, 99)) {
            return BAD;
        }
        if (now.length < n) {
            return STATE;
        }
        act();
        return now.length -= n;
    }

    int peg(int is) {
        if (now == null) {
            return STATE;
        }
        if (notIn(is, 0, 1)) {
            return BAD;
        }
        if (now.peg == (is == 1)) {
            return STATE;
        }
        act();
        now.peg = is == 1;
        return 1;
    }

    int undo() {
        if (acts.isEmpty()) {
            return STATE;
        }
        now = acts.removeLast();
        return acts.size();
    }

    int strand(int s, int what) {
        if (noStrand(s) || notIn(what, 0, 3)) {
            return BAD;
        }
        Facts f = now.strands.get(s).facts();
        return List.of(f.bears, f.worn, now.gone.contains(s) ? 1 : 0, now.plait.contains(s) ? 1 : 0).get(what);
    }

    int climber(int c, int what) {
        if (noClimber(c) || notIn(what, 0, 5)) {
            return BAD;
        }
        Climber who = now.climbers.get(c);
        int strain = now.plait.isEmpty() ? 0 : now.share(who.weight, now.plait.size());
        return List.of(who.weight, who.every, who.off, now.fell.get(c),
                now.bears(who.weight, now.plait) ? 1 : 0, strain).get(what);
    }

    // ---- foretold

    private int dueOn(int day) {
        int due = 0;
        for (int c = 0; c < now.climbers.size(); c++) {
            due += now.isDue(c, day) ? 1 << c : 0;
        }
        return due;
    }

    int due(int d) {
        if (now == null) {
            return STATE;
        }
        return notIn(d, 0, 99) ? BAD : dueOn(now.today + d);
    }

    int borne(int c, int set) {
        if (noClimber(c) || noSet(set)) {
            return BAD;
        }
        if (anyGone(set)) {
            return STATE;
        }
        return now.bears(now.climbers.get(c).weight, setOf(set)) ? 1 : 0;
    }

    private int[] bestPlan;
    private int bestWear;

    /** Every sequence of sets, in its order; one that wears less than all ahead of it stays. */
    private void tryPlans(Tower tower, int d, int[] sets, int k) {
        if (k == d) {
            int wear = tower.wornInAll() - now.wornInAll();
            if (bestPlan == null || wear < bestWear) {
                bestPlan = sets.clone();
                bestWear = wear;
            }
            return;
        }
        TreeSet<Integer> due = setOf(dueOn(now.today + k));
        for (int set = 0; set < 1 << tower.strands.size(); set++) {
            if (anyGone(set) || (set == 0) != due.isEmpty()) {
                continue;
            }
            Tower then = tower.again();
            then.length = Math.min(99, now.length + k);
            then.plait = setOf(set);
            boolean all = true;
            for (int c : due) {
                all = all && then.length >= then.high && then.climb(c) == 0;
            }
            if (all) {
                sets[k] = set;
                tryPlans(then, d, sets, k + 1);
            }
        }
    }

    private boolean hasPlan(int d) {
        bestPlan = null;
        tryPlans(now, d, new int[d], 0);
        return bestPlan != null;
    }

    int plan(int d, int k) {
        if (now == null) {
            return STATE;
        }
        if (notIn(d, 1, 3) || notIn(k, -1, d - 1)) {
            return BAD;
        }
        if (!hasPlan(d)) {
            return NONE;
        }
        return k == -1 ? bestWear : bestPlan[k];
    }

    int never() {
        if (now == null) {
            return STATE;
        }
        return !hasPlan(1) ? 1 : !hasPlan(2) ? 2 : !hasPlan(3) ? 3 : NONE;
    }

    int needed(int c) {
        if (noClimber(c)) {
            return BAD;
        }
        int weight = now.climbers.get(c).weight;
        TreeSet<Integer> needed = new TreeSet<>();
        for (int s : now.plait) {
            TreeSet<Integer> others = new TreeSet<>(now.plait);
            others.remove(s);
            if (!now.bears(weight, now.plait) || !now.bears(weight, others)) {
                needed.add(s);
            }
        }
        return bitsOf(needed);
    }

    private int most(TreeSet<Integer> set) {
        int most = 0;
        for (int weight = 1; weight <= 99; weight++) {
            most = now.bears(weight, set) ? weight : most;
        }
        return most;
    }

    int strongest(int what) {
        if (now == null) {
            return STATE;
        }
        if (notIn(what, 0, 2)) {
            return BAD;
        }
        if (what == 0) {
            return most(now.plait);
        }
        int best = 0;
        for (int set = (1 << now.strands.size()) - 1; set >= 0; set--) {
            if (!anyGone(set) && most(setOf(set)) >= most(setOf(best))) {
                best = set;
            }
        }
        return what == 1 ? best : most(setOf(best));
    }

    private boolean mayCut(int n) {
        for (int d = 0; d < 9; d++) {
            if (dueOn(now.today + d) != 0 && Math.min(99, now.length - n + d) < now.high) {
                return false;
            }
        }
        return true;
    }

    int cutMost() {
        if (now == null) {
            return STATE;
        }
        if (now.climbers.isEmpty()) {
            return NONE;
        }
        for (int n = now.length; n >= 0; n--) {
            if (mayCut(n)) {
                return n;
            }
        }
        return NONE;
    }

    int comes(int c, int n) {
        if (noClimber(c) || notIn(n, 1, 20)) {
            return BAD;
        }
        int left = n;
        int day = now.today - 1;
        while (left > 0) {
            day++;
            left -= now.isDue(c, day) ? 1 : 0;
        }
        return day;
    }

    private boolean makes(int c, int set, int strain) {
        int many = setOf(set).size();
        return strain == (many == 0 ? 0 : now.share(now.climbers.get(c).weight, many));
    }

    int climbed(int strain) {
        if (now == null) {
            return STATE;
        }
        if (notIn(strain, 0, 99)) {
            return BAD;
        }
        TreeSet<Integer> who = new TreeSet<>();
        for (int c = 0; c < now.climbers.size(); c++) {
            if (makes(c, bitsOf(now.plait), strain)) {
                who.add(c);
            }
        }
        return bitsOf(who);
    }

    int climbers(int row, int i, int n) {
        if (now == null) {
            return STATE;
        }
        if (notIn(row, 0, 7) || notIn(n, 1, 8)) {
            return BAD;
        }
        if (!rows.containsKey(row)) {
            return found(1);
        }
        int[] items = rows.get(row).items;
        if (i < 0 || (long) i + 2 * n > items.length) {
            return found(2);
        }
        int[] pairs = Arrays.copyOfRange(items, i, i + 2 * n);
        TreeSet<Integer> who = setOf((1 << now.climbers.size()) - 1);
        for (int p = 0; p < n; p++) {
            int set = pairs[2 * p];
            int strain = pairs[2 * p + 1];
            if (set == 0 || noSet(set) || notIn(strain, 0, 99)) {
                return BAD;
            }
            who.removeIf(c -> !makes(c, set, strain));
        }
        return fine(bitsOf(who));
    }

    int storm(int c, int tenths, int what) {
        if (noClimber(c) || notIn(tenths, 0, 10) || notIn(what, 0, 1)) {
            return BAD;
        }
        BigInteger above = BigInteger.ZERO;
        int all = bitsOf(now.plait);
        for (int left = 0; left <= all; left++) {
            if ((left & all) != left || !now.bears(now.climbers.get(c).weight, setOf(left))) {
                continue;
            }
            BigInteger part = BigInteger.ONE;
            for (int s : now.plait) {
                part = part.multiply(BigInteger.valueOf((left & 1 << s) != 0 ? 10 - tenths : tenths));
            }
            above = above.add(part);
        }
        BigInteger below = BigInteger.TEN.pow(now.plait.size());
        BigInteger common = above.gcd(below);
        return (what == 0 ? above : below).divide(common).intValueExact();
    }

    int image(int k) {
        if (notIn(k, 0, 1)) {
            return BAD;
        }
        if (now == null) {
            return STATE;
        }
        images[k] = now.again();
        return 1;
    }

    int restore(int k) {
        if (notIn(k, 0, 1)) {
            return BAD;
        }
        if (images[k] == null) {
            return STATE;
        }
        now = images[k].again();
        acts.clear();
        return 1;
    }

    // ---- asked

    int kind(int s) {
        return noStrand(s) ? BAD : KINDS.indexOf(now.strands.get(s).getClass());
    }

    int as(int s, int kind) {
        if (noStrand(s) || notIn(kind, 0, 5)) {
            return BAD;
        }
        return KINDS.get(kind).isInstance(now.strands.get(s)) ? fine(s) : found(3);
    }

    int ask(int s, int what) {
        if (noStrand(s) || notIn(what, 0, 1)) {
            return BAD;
        }
        trace.clear();
        return what == 0 ? now.strands.get(s).size(trace) : now.strands.get(s).mark(trace);
    }

    int trace(int i) {
        return i >= 0 && i < Math.min(16, trace.size()) ? trace.get(i) : NONE;
    }

    int count(int what) {
        if (notIn(what, 0, 9)) {
            return BAD;
        }
        Tower t = now == null ? new Tower() : now;
        return List.of(rows.size(), t.strands.size(), t.climbers.size(), t.today, t.high, t.length,
                t.peg ? 1 : 0, bitsOf(t.plait), acts.size(), tape.length()).get(what);
    }

    int status() {
        return latestFinding;
    }
}
