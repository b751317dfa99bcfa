/**
 * A tower without a door, the braid that is let down from it, and those who climb it.
 * What it must do stands in ../shared/DOC.md; words in capitals are that document's terms.
 */
public final class TowerBraid {
    public static final int NONE = -1000000, BAD = -1000001, STATE = -1000002, FULL = -1000003;

    private static final int FOUND = -1000010, FAULTY = -1000100;
    private static final int NULL = 1, PLACE = 2, KIND = 3, SIZE = 4, STORE = 5;
    private static final int HAIR = 1, SILK = 2, GREY = 3, ROPE = 4, TWINE = 5;
    private static final int STRANDS = 6, SETS = 64, CLIMBERS = 5;
    private static final int HEAVIEST = 99, LONGEST = 99, LAST_DAY = 999;
    private static final int PLANNED_DAYS = 3, CUT_DAYS = 9, TIMES = 20, FARTHEST = 99;
    private static final int KINDS = 6, IMAGES = 2, STRAINS = 8, PARTS = 10;

    /** By KIND, the nearest KIND that it is, too. */
    private static final int[] WIDER = {0, 0, HAIR, HAIR, 0, ROPE};

    private final Rows rows = new Rows();
    private final Reader reader = new Reader();
    private final Acts acts = new Acts();
    private final Planner planner = new Planner();
    private final Asks asks = new Asks();
    private final Tower now = new Tower();
    private final Tower firstImage = new Tower();
    private final Tower secondImage = new Tower();
    private int latestFault;
    private int latestFinding;

    public TowerBraid() {
    }

    // ---- rows

    public int row(int row, int lane, int n) {
        if (!rows.isRow(row) || !rows.isLane(lane) || n > Rows.ITEMS) {
            return BAD;
        }
        if (n < 0) {
            return found(SIZE);
        }
        rows.make(row, lane, n);
        return fine(n);
    }

    public int set(int row, int i, int v) {
        if (!rows.isRow(row)) {
            return BAD;
        }
        if (rows.isMissing(row)) {
            return found(NULL);
        }
        if (!rows.hasPlaces(row, i, 1)) {
            return found(PLACE);
        }
        return fine(rows.put(row, i, v));
    }

    public int copy(int a, int i, int b, int j, int n) {
        if (!rows.isRow(a) || !rows.isRow(b)) {
            return BAD;
        }
        if (rows.isMissing(a) || rows.isMissing(b)) {
            return found(NULL);
        }
        if (!rows.areOfOneLane(a, b)) {
            return found(STORE);
        }
        if (!rows.hasPlaces(a, i, n) || !rows.hasPlaces(b, j, n)) {
            return found(PLACE);
        }
        rows.move(a, i, b, j, n);
        return fine(n);
    }

    public int drop(int row) {
        if (!rows.isRow(row)) {
            return BAD;
        }
        if (rows.isMissing(row)) {
            return found(NULL);
        }
        return fine(rows.lose(row));
    }

    // ---- towers, acts

    public int feed(int letter) {
        if (letter < 0 || letter > 255) {
            return BAD;
        }
        if (reader.isFull()) {
            return FULL;
        }
        return reader.append(letter);
    }

    public int tower() {
        reader.readTape();
        if (reader.fault != 0) {
            latestFault = reader.fault;
            return FAULTY - reader.place;
        }
        now.become(reader.told);
        beginAnew();
        return now.climberCount;
    }

    public int fault() {
        return latestFault;
    }

    public int plait(int set) {
        if (!now.stands) {
            return STATE;
        }
        if (!now.isSet(set)) {
            return BAD;
        }
        if ((set & now.gone) != 0) {
            return STATE;
        }
        beginAct();
        now.plaited = set;
        return Integer.bitCount(set);
    }

    public int climb(int climber) {
        if (!now.isClimber(climber)) {
            return BAD;
        }
        if (now.length < now.high || now.plaited == 0) {
            return STATE;
        }
        beginAct();
        return now.letClimb(climber);
    }

    public int day() {
        if (!now.stands) {
            return STATE;
        }
        if (now.today >= LAST_DAY) {
            return FULL;
        }
        beginAct();
        now.length = now.lengthIn(1);
        now.today++;
        return now.today;
    }

    public int cut(int n) {
        if (!now.stands) {
            return STATE;
        }
        if (n < 1 || n > LONGEST) {
            return BAD;
        }
        if (n > now.length) {
            return STATE;
        }
        beginAct();
        now.length -= n;
        return now.length;
    }

    public int peg(int is) {
        if (!now.stands) {
            return STATE;
        }
        if (is != 0 && is != 1) {
            return BAD;
        }
        if (now.pegs == is) {
            return STATE;
        }
        beginAct();
        now.pegs = is;
        return 1;
    }

    public int undo() {
        if (acts.many == 0) {
            return STATE;
        }
        acts.takeBack(now);
        planner.forget();
        return acts.many;
    }

    public int strand(int strand, int what) {
        if (!now.isStrand(strand)) {
            return BAD;
        }
        switch (what) {
            case 0:
                return now.bears[strand];
            case 1:
                return now.worn[strand];
            case 2:
                return bit(now.gone, strand);
            case 3:
                return bit(now.plaited, strand);
            default:
                return BAD;
        }
    }

    public int climber(int climber, int what) {
        if (!now.isClimber(climber)) {
            return BAD;
        }
        switch (what) {
            case 0:
                return now.weight[climber];
            case 1:
                return now.every[climber];
            case 2:
                return now.off[climber];
            case 3:
                return now.fell[climber];
            case 4:
                return now.isBorne(climber, now.plaited) ? 1 : 0;
            case 5:
                return now.strain(climber, now.plaited);
            default:
                return BAD;
        }
    }

    // ---- foretold

    public int due(int d) {
        if (!now.stands) {
            return STATE;
        }
        if (d < 0 || d > FARTHEST) {
            return BAD;
        }
        return now.dueIn(d);
    }

    public int borne(int climber, int set) {
        if (!now.isClimber(climber) || !now.isSet(set)) {
            return BAD;
        }
        if ((set & now.gone) != 0) {
            return STATE;
        }
        return now.isBorne(climber, set) ? 1 : 0;
    }

    public int plan(int d, int k) {
        if (!now.stands) {
            return STATE;
        }
        if (d < 1 || d > PLANNED_DAYS || k < -1 || k >= d) {
            return BAD;
        }
        if (!planner.isPlanned(now, d)) {
            return NONE;
        }
        return k < 0 ? planner.leastWear(d) : planner.plannedSet(d, k);
    }

    public int never() {
        if (!now.stands) {
            return STATE;
        }
        for (int d = 1; d <= PLANNED_DAYS; d++) {
            if (!planner.isPlanned(now, d)) {
                return d;
            }
        }
        return NONE;
    }

    public int needed(int climber) {
        if (!now.isClimber(climber)) {
            return BAD;
        }
        if (!now.isBorne(climber, now.plaited)) {
            return now.plaited;
        }
        int needed = 0;
        for (int s = 0; s < now.strandCount; s++) {
            int one = now.plaited & 1 << s;
            if (one != 0 && !now.isBorne(climber, now.plaited & ~one)) {
                needed |= one;
            }
        }
        return needed;
    }

    public int strongest(int what) {
        if (!now.stands) {
            return STATE;
        }
        switch (what) {
            case 0:
                return now.mostWeight(now.plaited);
            case 1:
                return now.stoutestSet();
            case 2:
                return now.mostWeight(now.stoutestSet());
            default:
                return BAD;
        }
    }

    public int cutMost() {
        if (!now.stands) {
            return STATE;
        }
        if (now.climberCount == 0) {
            return NONE;
        }
        int most = now.length;
        for (int d = 0; d < CUT_DAYS; d++) {
            if (now.dueIn(d) != 0) {
                most = Math.min(most, now.length + d - now.high);
            }
        }
        return most < 0 ? NONE : most;
    }

    public int comes(int climber, int n) {
        if (!now.isClimber(climber) || n < 1 || n > TIMES) {
            return BAD;
        }
        return now.dayOfComing(climber, n);
    }

    public int climbed(int strain) {
        if (!now.stands) {
            return STATE;
        }
        if (!isStrain(strain)) {
            return BAD;
        }
        return now.whoStrain(now.plaited, strain);
    }

    public int climbers(int row, int i, int n) {
        if (!now.stands) {
            return STATE;
        }
        if (!rows.isRow(row) || n < 1 || n > STRAINS) {
            return BAD;
        }
        if (rows.isMissing(row)) {
            return found(NULL);
        }
        if (!rows.hasPlaces(row, i, 2 * n)) {
            return found(PLACE);
        }
        int who = whoStrainAll(row, i, n);
        return who == BAD ? BAD : fine(who);
    }

    public int storm(int climber, int c, int what) {
        if (!now.isClimber(climber) || c < 0 || c > PARTS || what < 0 || what > 1) {
            return BAD;
        }
        int above = now.stormParts(climber, c);
        int below = power(PARTS, Integer.bitCount(now.plaited));
        int common = commonDivisor(above, below);
        if (common == 0) {
            return BAD;
        }
        return what == 0 ? above / common : below / common;
    }

    public int image(int k) {
        if (k < 0 || k >= IMAGES) {
            return BAD;
        }
        if (!now.stands) {
            return STATE;
        }
        imageOf(k).become(now);
        return 1;
    }

    public int restore(int k) {
        if (k < 0 || k >= IMAGES) {
            return BAD;
        }
        Tower kept = imageOf(k);
        if (!kept.stands) {
            return STATE;
        }
        now.become(kept);
        beginAnew();
        return 1;
    }

    // ---- asked

    public int kind(int strand) {
        return now.isStrand(strand) ? now.sort[strand] : BAD;
    }

    public int as(int strand, int kind) {
        if (!now.isStrand(strand) || kind < 0 || kind >= KINDS) {
            return BAD;
        }
        return isOfKind(now.sort[strand], kind) ? fine(strand) : found(KIND);
    }

    public int ask(int strand, int what) {
        if (!now.isStrand(strand) || what < 0 || what > 1) {
            return BAD;
        }
        asks.clearTrace();
        return what == 0 ? asks.size(now, strand) : asks.mark(now, strand);
    }

    public int trace(int i) {
        return asks.traced(i);
    }

    public int count(int what) {
        switch (what) {
            case 0:
                return rows.howMany();
            case 1:
                return now.strandCount;
            case 2:
                return now.climberCount;
            case 3:
                return now.today;
            case 4:
                return now.high;
            case 5:
                return now.length;
            case 6:
                return now.pegs;
            case 7:
                return now.plaited;
            case 8:
                return acts.many;
            case 9:
                return reader.bytes;
            default:
                return BAD;
        }
    }

    public int status() {
        return latestFinding;
    }

    // ---- within

    private int found(int finding) {
        latestFinding = finding;
        return FOUND - finding;
    }

    private int fine(int answer) {
        latestFinding = 0;
        return answer;
    }

    private void beginAct() {
        acts.keep(now);
        planner.forget();
    }

    private void beginAnew() {
        acts.forget();
        planner.forget();
    }

    private Tower imageOf(int k) {
        return k == 0 ? firstImage : secondImage;
    }

    /** All pairs are looked at before one answers: a wrong one anywhere is BAD. */
    private int whoStrainAll(int row, int i, int n) {
        int who = (1 << now.climberCount) - 1;
        for (int pair = 0; pair < n; pair++) {
            int set = rows.item(row, i + 2 * pair);
            int strain = rows.item(row, i + 2 * pair + 1);
            if (set == 0 || !now.isSet(set) || !isStrain(strain)) {
                return BAD;
            }
            who &= now.whoStrain(set, strain);
        }
        return who;
    }

    private static boolean isStrain(int strain) {
        return strain >= 0 && strain <= HEAVIEST;
    }

    private static boolean isOfKind(int sort, int kind) {
        int wider = sort;
        for (int step = 0; step < KINDS && wider != kind && wider != 0; step++) {
            wider = WIDER[wider];
        }
        return wider == kind;
    }

    private static int bit(int set, int i) {
        return set >> i & 1;
    }

    private static int power(int base, int times) {
        int product = 1;
        for (int i = 0; i < times; i++) {
            product *= base;
        }
        return product;
    }

    private static int commonDivisor(int a, int b) {
        int larger = a;
        int smaller = b;
        for (int turn = 0; turn < 100 && smaller != 0; turn++) {
            int rest = larger % smaller;
            larger = smaller;
            smaller = rest;
        }
        return larger;
    }

    /** The ROWS; their places are made once and used by each ROW that comes. */
    private static final class Rows {
        static final int ROWS = 8, ITEMS = 40, LANES = 3;
        private static final int MISSING = -1;

        private final int[][] items = new int[ROWS][ITEMS];
        private final int[] lanes = new int[ROWS];
        private final int[] sizes = {MISSING, MISSING, MISSING, MISSING, MISSING, MISSING, MISSING, MISSING};

        boolean isRow(int row) {
            return row >= 0 && row < ROWS;
        }

        boolean isLane(int lane) {
            return lane >= 0 && lane < LANES;
        }

        boolean isMissing(int row) {
            return sizes[row] == MISSING;
        }

        boolean areOfOneLane(int a, int b) {
            return lanes[a] == lanes[b];
        }

        /** Written without i + n, which could wrap around. */
        boolean hasPlaces(int row, int i, int n) {
            return i >= 0 && n >= 0 && n <= sizes[row] && i <= sizes[row] - n;
        }

        void make(int row, int lane, int n) {
            lanes[row] = lane;
            sizes[row] = n;
            for (int i = 0; i < ITEMS; i++) {
                items[row][i] = 0;
            }
        }

        int put(int row, int i, int v) {
            items[row][i] = lanes[row] == 0 ? (byte) v : lanes[row] == 1 ? (short) v : v;
            return items[row][i];
        }

        int item(int row, int i) {
            return items[row][i];
        }

        void move(int a, int i, int b, int j, int n) {
            System.arraycopy(items[a], i, items[b], j, n);
        }

        int lose(int row) {
            int size = sizes[row];
            sizes[row] = MISSING;
            return size;
        }

        int howMany() {
            int many = 0;
            for (int row = 0; row < ROWS; row++) {
                many += sizes[row] == MISSING ? 0 : 1;
            }
            return many;
        }
    }

    /** A TOWER as it was told, and what has become of it. */
    private static final class Tower {
        boolean stands;
        int high, length, today, pegs, plaited, gone;
        int strandCount, climberCount;
        final int[] sort = new int[STRANDS];
        final int[] bears = new int[STRANDS];
        final int[] worn = new int[STRANDS];
        final int[] weight = new int[CLIMBERS];
        final int[] every = new int[CLIMBERS];
        final int[] off = new int[CLIMBERS];
        final int[] fell = new int[CLIMBERS];

        void become(Tower other) {
            stands = other.stands;
            high = other.high;
            length = other.length;
            today = other.today;
            pegs = other.pegs;
            plaited = other.plaited;
            gone = other.gone;
            strandCount = other.strandCount;
            climberCount = other.climberCount;
            System.arraycopy(other.sort, 0, sort, 0, STRANDS);
            System.arraycopy(other.bears, 0, bears, 0, STRANDS);
            System.arraycopy(other.worn, 0, worn, 0, STRANDS);
            System.arraycopy(other.weight, 0, weight, 0, CLIMBERS);
            System.arraycopy(other.every, 0, every, 0, CLIMBERS);
            System.arraycopy(other.off, 0, off, 0, CLIMBERS);
            System.arraycopy(other.fell, 0, fell, 0, CLIMBERS);
        }

        boolean isStrand(int s) {
            return s >= 0 && s < strandCount;
        }

        boolean isClimber(int c) {
            return c >= 0 && c < climberCount;
        }

        boolean isSet(int set) {
            return set >= 0 && set < 1 << strandCount;
        }

        /** Whether it is a set of STRANDS none of which is GONE. */
        boolean isLeft(int set) {
            return isSet(set) && (set & gone) == 0;
        }

        int pull(int c) {
            return pegs == 1 ? (weight[c] + 1) / 2 : weight[c];
        }

        int strain(int c, int set) {
            int many = Integer.bitCount(set);
            return many == 0 ? 0 : (pull(c) + many - 1) / many;
        }

        /** The largest SHARE by which a STRAND that is so much worn HOLDS, as one of so many. */
        int holds(int s, int wornBy, int many) {
            return (sort[s] == TWINE && many == 1 ? 2 * bears[s] : bears[s]) - wornBy;
        }

        int breaking(int set, int share) {
            int many = Integer.bitCount(set);
            int broken = 0;
            for (int s = 0; s < strandCount; s++) {
                if (bit(set, s) == 1 && share > holds(s, worn[s], many)) {
                    broken |= 1 << s;
                }
            }
            return broken;
        }

        boolean isBorne(int c, int set) {
            return set != 0 && breaking(set, strain(c, set)) == 0;
        }

        /** How many break; each turn breaks one at least, so that there are no more turns than STRANDS. */
        int letClimb(int c) {
            int before = Integer.bitCount(plaited);
            int broken = breaking(plaited, strain(c, plaited));
            for (int turn = 0; turn < STRANDS && broken != 0; turn++) {
                plaited &= ~broken;
                gone |= broken;
                broken = breaking(plaited, strain(c, plaited));
            }
            if (plaited == 0) {
                fell[c]++;
            } else {
                wearPlait(strain(c, plaited));
            }
            return before - Integer.bitCount(plaited);
        }

        private void wearPlait(int share) {
            for (int s = 0; s < strandCount; s++) {
                if (bit(plaited, s) == 1) {
                    worn[s] += wear(s, share);
                }
            }
        }

        int wear(int s, int share) {
            switch (sort[s]) {
                case HAIR:
                    return share / 10;
                case GREY:
                    return 2 * (share / 10);
                case ROPE:
                    return 1;
                case TWINE:
                    return 1 + share / 20;
                default:
                    return 0;
            }
        }

        int lengthIn(int d) {
            return Math.min(LONGEST, length + d);
        }

        int dueIn(int d) {
            int due = 0;
            for (int c = 0; c < climberCount; c++) {
                if (every[c] > 0 && (today + d) % every[c] == off[c]) {
                    due |= 1 << c;
                }
            }
            return due;
        }

        int dayOfComing(int c, int n) {
            if (every[c] <= 0) {
                return NONE;
            }
            return today + Math.floorMod(off[c] - today, every[c]) + (n - 1) * every[c];
        }

        int mostWeight(int set) {
            int many = Integer.bitCount(set);
            int share = HEAVIEST;
            for (int s = 0; s < strandCount; s++) {
                if (bit(set, s) == 1) {
                    share = Math.min(share, holds(s, worn[s], many));
                }
            }
            int pull = Math.max(0, share) * many;
            return Math.min(HEAVIEST, pegs == 1 ? 2 * pull : pull);
        }

        int stoutestSet() {
            int stoutest = 0;
            int most = 0;
            for (int set = 1; set < SETS; set++) {
                if (isLeft(set) && mostWeight(set) > most) {
                    stoutest = set;
                    most = mostWeight(set);
                }
            }
            return stoutest;
        }

        int whoStrain(int set, int share) {
            int who = 0;
            for (int c = 0; c < climberCount; c++) {
                if (strain(c, set) == share) {
                    who |= 1 << c;
                }
            }
            return who;
        }

        /** Of 10 to the power of how many STRANDS are in the PLAIT, the part by which one is BORNE. */
        int stormParts(int climber, int c) {
            int many = Integer.bitCount(plaited);
            int parts = 0;
            for (int left = 1; left < SETS; left++) {
                if ((left & ~plaited) == 0 && isBorne(climber, left)) {
                    int staying = Integer.bitCount(left);
                    parts += power(PARTS - c, staying) * power(c, many - staying);
                }
            }
            return parts;
        }
    }

    /** THE TAPE, and how a TOWER is read from it. */
    private static final class Reader {
        private static final int LENGTH = 120;
        private static final int NOT_HERE = 1, NOT_AS_TOLD = 2, NO_ROOM = 3;

        private final int[] tape = new int[LENGTH];
        private final Tower blank = new Tower();
        final Tower told = new Tower();
        int bytes;
        int place;
        int fault;

        boolean isFull() {
            return bytes >= LENGTH;
        }

        int append(int letter) {
            tape[bytes] = letter;
            bytes++;
            return bytes;
        }

        /** The tape is empty then; if there is a fault, place stays at it. */
        void readTape() {
            place = 0;
            fault = 0;
            told.become(blank);
            readLaw();
            for (int i = 0; i < LENGTH && fault == 0 && sortOf(here()) != 0; i++) {
                readStrand();
            }
            for (int i = 0; i < LENGTH && fault == 0 && here() == 'c'; i++) {
                readClimber();
            }
            if (fault == 0 && place < bytes) {
                fault = NOT_HERE;
            }
            told.stands = fault == 0;
            bytes = 0;
        }

        private void readLaw() {
            readSign('t');
            told.high = readNumber(1, LONGEST);
            readSign(',');
            told.length = readNumber(1, LONGEST);
            readSign(';');
        }

        private void readStrand() {
            int s = told.strandCount;
            if (s >= STRANDS) {
                fault = NO_ROOM;
                return;
            }
            told.sort[s] = sortOf(here());
            place++;
            told.bears[s] = readNumber(1, 99);
            readSign(';');
            told.strandCount++;
        }

        private void readClimber() {
            int c = told.climberCount;
            if (c >= CLIMBERS) {
                fault = NO_ROOM;
                return;
            }
            place++;
            told.weight[c] = readNumber(1, HEAVIEST);
            readSign(',');
            told.every[c] = readNumber(1, 9);
            readSign(',');
            told.off[c] = readNumber(0, told.every[c] - 1);
            readSign(';');
            told.climberCount++;
        }

        /** Behind a fault nothing is read any more: the first one is told. */
        private void readSign(int sign) {
            if (fault != 0) {
                return;
            }
            if (here() == sign) {
                place++;
            } else {
                fault = NOT_HERE;
            }
        }

        private int readNumber(int least, int most) {
            if (fault != 0) {
                return 0;
            }
            int figures = 0;
            int number = 0;
            for (int i = place; i < bytes && i < place + 3 && isFigure(tape[i]); i++) {
                number = 10 * number + tape[i] - '0';
                figures++;
            }
            if (figures == 0 || figures > 2) {
                fault = NOT_HERE;
                return 0;
            }
            if (number < least || number > most) {
                fault = NOT_AS_TOLD;
                return 0;
            }
            place += figures;
            return number;
        }

        private int here() {
            return place < bytes ? tape[place] : -1;
        }

        private static boolean isFigure(int letter) {
            return letter >= '0' && letter <= '9';
        }

        private static int sortOf(int letter) {
            switch (letter) {
                case 'h':
                    return HAIR;
                case 's':
                    return SILK;
                case 'g':
                    return GREY;
                case 'r':
                    return ROPE;
                case 'w':
                    return TWINE;
                default:
                    return 0;
            }
        }
    }

    /** The ACTS that can be undone, each as the TOWER ahead of it, in a ring. */
    private static final class Acts {
        private static final int KEPT = 24;

        private final Tower[] ahead = new Tower[KEPT];
        private int oldest;
        int many;

        Acts() {
            for (int i = 0; i < KEPT; i++) {
                ahead[i] = new Tower();
            }
        }

        void keep(Tower tower) {
            ahead[(oldest + many) % KEPT].become(tower);
            if (many < KEPT) {
                many++;
            } else {
                oldest = (oldest + 1) % KEPT;
            }
        }

        void takeBack(Tower tower) {
            if (many > 0) {
                many--;
                tower.become(ahead[(oldest + many) % KEPT]);
            }
        }

        void forget() {
            oldest = 0;
            many = 0;
        }
    }

    /**
     * PLANS, kept until the TOWER changes. By how much a set is worn on a DAY depends on who is DUE
     * alone, not on how much it is WORN already: so that is weighed once for each DAY and set, and a
     * beginning that can no longer become the least is left at once.
     */
    private static final class Planner {
        private static final int NO_WEAR = 1000000;

        private final boolean[] known = new boolean[PLANNED_DAYS + 1];
        private final int[] least = new int[PLANNED_DAYS + 1];
        private final int[][] best = new int[PLANNED_DAYS + 1][PLANNED_DAYS];
        private final int[] tried = new int[PLANNED_DAYS];
        private final int[][] wears = new int[PLANNED_DAYS][SETS];
        private final int[] leastOfDay = new int[PLANNED_DAYS];
        private final int[] leastAhead = new int[PLANNED_DAYS + 1];
        private final int[][] worn = new int[PLANNED_DAYS + 1][STRANDS];
        private boolean weighed;

        void forget() {
            weighed = false;
            for (int d = 0; d <= PLANNED_DAYS; d++) {
                known[d] = false;
            }
        }

        int leastWear(int d) {
            return least[d];
        }

        int plannedSet(int d, int k) {
            return best[d][k];
        }

        boolean isPlanned(Tower tower, int d) {
            if (!weighed) {
                weigh(tower);
            }
            if (!known[d]) {
                leastAhead[d] = 0;
                for (int day = d - 1; day >= 0; day--) {
                    leastAhead[day] = leastAhead[day + 1] + leastOfDay[day];
                }
                least[d] = NO_WEAR;
                search(this, tower, d, 0, 0);
                known[d] = true;
            }
            return least[d] < NO_WEAR;
        }

        private void weigh(Tower tower) {
            System.arraycopy(tower.worn, 0, worn[0], 0, STRANDS);
            for (int day = 0; day < PLANNED_DAYS; day++) {
                int due = tower.dueIn(day);
                leastOfDay[day] = NO_WEAR;
                for (int set = 0; set < SETS; set++) {
                    wears[day][set] = wearOf(tower, day, due, set);
                    leastOfDay[day] = Math.min(leastOfDay[day], wears[day][set]);
                }
            }
            weighed = true;
        }

        /** By STRANDS as they are now, which are never WORN less on a later DAY. */
        private int wearOf(Tower tower, int day, int due, int set) {
            if (due == 0) {
                return set == 0 ? 0 : NO_WEAR;
            }
            if (set == 0 || !tower.isLeft(set) || tower.lengthIn(day) < tower.high) {
                return NO_WEAR;
            }
            return letAllClimb(tower, due, set, worn[0], worn[1]);
        }

        /** Goes through sets from the least on, so that of several the first stays. */
        private static void search(Planner plans, Tower tower, int d, int day, int wear) {
            if (day >= d || day >= PLANNED_DAYS) {
                plans.least[d] = wear;
                System.arraycopy(plans.tried, 0, plans.best[d], 0, PLANNED_DAYS);
                return;
            }
            for (int set = 0; set < SETS; set++) {
                int sum = wear + plans.wears[day][set];
                if (sum + plans.leastAhead[day + 1] < plans.least[d] && plans.areBorne(tower, day, set)) {
                    plans.tried[day] = set;
                    search(plans, tower, d, day + 1, sum);
                }
            }
        }

        private boolean areBorne(Tower tower, int day, int set) {
            return letAllClimb(tower, tower.dueIn(day), set, worn[day], worn[day + 1]) < NO_WEAR;
        }

        /** By how much all is worn more then, or NO_WEAR if one is not BORNE. */
        private int letAllClimb(Tower tower, int due, int set, int[] from, int[] to) {
            System.arraycopy(from, 0, to, 0, STRANDS);
            int many = Integer.bitCount(set);
            int sum = 0;
            for (int c = 0; c < tower.climberCount; c++) {
                if (bit(due, c) == 1) {
                    int share = tower.strain(c, set);
                    for (int s = 0; s < tower.strandCount; s++) {
                        if (bit(set, s) == 1) {
                            if (share > tower.holds(s, to[s], many)) {
                                return NO_WEAR;
                            }
                            int more = tower.wear(s, share);
                            to[s] += more;
                            sum += more;
                        }
                    }
                }
            }
            return sum;
        }
    }

    /** The ASKS; each body bears the number by which the document tells it. */
    private static final class Asks {
        private static final int KEPT = 16;

        private final int[] bodies = new int[KEPT];
        private int many;

        void clearTrace() {
            many = 0;
        }

        int traced(int i) {
            return i >= 0 && i < many ? bodies[i] : NONE;
        }

        private void begin(int body) {
            if (many < KEPT) {
                bodies[many] = body;
                many++;
            }
        }

        int size(Tower tower, int s) {
            switch (tower.sort[s]) {
                case HAIR:
                case GREY:
                    return size11(tower, s);
                case SILK:
                    return size12(tower, s);
                case ROPE:
                    return size13(tower, s);
                case TWINE:
                    return size14(tower, s);
                default:
                    return size10(tower, s);
            }
        }

        int mark(Tower tower, int s) {
            switch (tower.sort[s]) {
                case HAIR:
                    return mark21(tower, s);
                case GREY:
                    return mark22(tower, s);
                case ROPE:
                case TWINE:
                    return mark23(tower, s);
                case SILK:
                    return mark24(tower, s);
                default:
                    return mark20(s);
            }
        }

        private int size10(Tower tower, int s) {
            begin(10);
            return tower.bears[s];
        }

        /** MARK is asked here among HAIRS only, so that no ask calls itself in a circle. */
        private int size11(Tower tower, int s) {
            begin(11);
            int lent = size10(tower, s);
            switch (tower.sort[s]) {
                case SILK:
                    return lent + mark24(tower, s);
                case GREY:
                    return lent + mark22(tower, s);
                default:
                    return lent + mark21(tower, s);
            }
        }

        private int size12(Tower tower, int s) {
            begin(12);
            return -size11(tower, s);
        }

        private int size13(Tower tower, int s) {
            begin(13);
            return size10(tower, s) - 100;
        }

        private int size14(Tower tower, int s) {
            begin(14);
            return 2 * size13(tower, s);
        }

        private int mark20(int s) {
            begin(20);
            return s;
        }

        private int mark21(Tower tower, int s) {
            begin(21);
            return mark20(s) + tower.worn[s];
        }

        private int mark22(Tower tower, int s) {
            begin(22);
            return mark21(tower, s) - 1000;
        }

        /** SIZE is asked here among ROPES only. */
        private int mark23(Tower tower, int s) {
            begin(23);
            int lent = mark20(s);
            return lent - (tower.sort[s] == TWINE ? size14(tower, s) : size13(tower, s));
        }

        private int mark24(Tower tower, int s) {
            begin(24);
            return 2 * mark21(tower, s);
        }
    }
}
