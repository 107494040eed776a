/**
 * Coils and iron: machines of pieces, gaps, magnets and windings told by a path, their one rest of
 * all flows in exact fractions, what was seen of them, coil sides in slots, a switched winding and
 * warm bodies. README.md tells how to use it.
 */
public final class CoilWorks {
    public static final int NONE = -1, BAD = -2, NO = -3, FULL = -4;

    private static final int BAD_FRACTION = -10, NO_FRACTION = -20, BAD_SOURCE = -1000000, BAD_STAR = -1000;
    private static final int PIECES = 7, TURNS = 24, WINDINGS = 4, CHARACTERS = 40, ROWS = 6;
    private static final int LEAST_SLOTS = 6, MOST_SLOTS = 24, PHASES = 3, MOST_WAVES = 24;
    private static final int BODIES = 4, HOTTEST = 1000000000, IMAGES = 2, MOST_TICKS = 1000;
    private static final int MOST_SLOPE = 200, MOST_GRADES = 30;
    private static final long FARTHEST = 1000000000000L;

    private final State now = new State();
    private final State[] images = {new State(), new State()};
    private final boolean[] kept = new boolean[IMAGES];
    private final Path path = new Path();
    private final Rest rest = new Rest();
    private final Stars stars = new Stars();
    private final Ratio fraction = new Ratio();
    private final Ratio here = new Ratio();
    private final Ratio next = new Ratio();
    private final int[] pushes = new int[TURNS];

    public CoilWorks() {
    }

    // ---- pieces, windings, path

    public int iron(int s1, int x1, int s2, int x2, int s3) {
        if (s1 > MOST_SLOPE || s2 > s1 || s3 > s2 || s3 < 1) return BAD;
        if (x1 < 1 || x2 <= x1 || x2 > 10000) return BAD;
        if (now.machine.pieces == PIECES) return FULL;
        return now.machine.addIron(s1, x1, s2, x2, s3);
    }

    public int gap() {
        if (now.machine.pieces == PIECES) return FULL;
        return now.machine.addGap();
    }

    public int gapAt(int piece, int turn, int v) {
        if (!isPiece(piece) || !isTurn(turn) || !within(v, 1, MOST_SLOPE)) return BAD;
        if (!now.machine.isGap(piece)) return BAD;
        int was = now.machine.gaps[piece][turn];
        now.machine.gaps[piece][turn] = v;
        return was;
    }

    public int magnet(int piece, int push) {
        if (!isPiece(piece) || !within(push, -5000, 5000)) return BAD;
        now.machine.magnets[piece] = push;
        return 1;
    }

    public int turns(int winding, int piece, int n) {
        if (!isWinding(winding) || !isPiece(piece) || !within(n, -50, 50)) return BAD;
        now.machine.wound[winding][piece] = n;
        return 1;
    }

    public int current(int winding, int v) {
        if (!isWinding(winding) || !within(v, -100, 100)) return BAD;
        now.machine.currents[winding] = v;
        return 1;
    }

    public int source(int piece) {
        return isPiece(piece) ? now.machine.sourceOf(piece) : BAD_SOURCE;
    }

    public int turn(int t) {
        if (!isTurn(t)) return BAD;
        int was = now.machine.turnNow;
        now.machine.turnNow = t;
        return was;
    }

    public int write(int character) {
        if (!within(character, 0, 127)) return BAD;
        if (now.machine.length >= CHARACTERS) return FULL;
        now.machine.characters[now.machine.length] = character;
        now.machine.length++;
        return now.machine.length;
    }

    public int erase() {
        int were = now.machine.length;
        now.machine.length = 0;
        return were;
    }

    public int fault() {
        return path.read(now.machine);
    }

    // ---- the rest

    public int flow(int piece) {
        if (!isPiece(piece)) return BAD_FRACTION;
        if (fault() != NONE) return NO_FRACTION;
        rest.settle(now.machine, path, now.machine.turnNow);
        rest.putFlow(piece, fraction);
        return shorten();
    }

    public int over(int piece) {
        if (!isPiece(piece)) return BAD_FRACTION;
        if (fault() != NONE) return NO_FRACTION;
        rest.settle(now.machine, path, now.machine.turnNow);
        rest.putPush(piece, fraction);
        return shorten();
    }

    public int part(int piece) {
        if (!isPiece(piece)) return BAD;
        if (fault() != NONE) return NO;
        rest.settle(now.machine, path, now.machine.turnNow);
        return Math.abs(rest.partSeen(now.machine, piece));
    }

    public int linked(int winding) {
        if (!isWinding(winding)) return BAD_FRACTION;
        if (fault() != NONE) return NO_FRACTION;
        link(winding, fraction);
        return shorten();
    }

    public int each(int first, int second) {
        if (!isWinding(first) || !isWinding(second)) return BAD_FRACTION;
        if (fault() != NONE) return NO_FRACTION;
        link(first, here);
        now.machine.currents[second]++;
        link(first, next);
        now.machine.currents[second]--;
        fraction.difference(next, here);
        return shorten();
    }

    public int stored() {
        if (fault() != NONE) return NO_FRACTION;
        storeAt(now.machine.turnNow, fraction);
        return shorten();
    }

    public int push(int t) {
        if (!isTurn(t)) return BAD_FRACTION;
        if (fault() != NONE) return NO_FRACTION;
        storeAt(t, here);
        storeAt((t + 1) % TURNS, next);
        fraction.difference(next, here);
        return shorten();
    }

    public int still(int what) {
        if (!within(what, 0, 1)) return BAD;
        if (fault() != NONE) return NO;
        findPushes();
        int bits = 0;
        for (int t = 0; t < TURNS; t++) {
            int ahead = pushes[(t + TURNS - 1) % TURNS];
            boolean holds = what == 0 ? pushes[t] <= 0 && ahead >= 0 : pushes[t] < 0 && ahead > 0;
            if (holds) bits |= 1 << t;
        }
        return bits;
    }

    public int limbs(int part) {
        if (!within(part, 0, 1)) return BAD;
        return half(part).size;
    }

    public int limb(int part, int i) {
        if (!within(part, 0, 1) || i < 0) return BAD;
        return i < half(part).size ? (int) half(part).limb[i] : NONE;
    }

    public long floor() {
        return fraction.cutDown();
    }

    // ---- what was seen

    public int see(int turn, int piece, long flow) {
        if (!isTurn(turn) || !isPiece(piece) || flow < -FARTHEST || flow > FARTHEST) return BAD;
        if (now.seen.rows >= ROWS) return FULL;
        return now.seen.add(turn, piece, flow);
    }

    public int forget() {
        int were = now.seen.rows;
        now.seen.rows = 0;
        return were;
    }

    public int fits() {
        if (fault() != NONE) return NO;
        boolean right = allFits();
        int bits = right ? 1 : 0;
        for (int w = 0; w < WINDINGS; w++) {
            bits |= fitsWithCurrent(w, 0, right) ? 2 << w : 0;
            bits |= fitsWithCurrent(w, now.machine.currents[w] / 2, right) ? 32 << w : 0;
        }
        for (int p = 0; p < now.machine.pieces; p++) bits |= fitsWithoutMagnet(p, right) ? 512 << p : 0;
        return bits;
    }

    public int grade(int piece, int from, int to, int what) {
        if (!isPiece(piece) || now.machine.isGap(piece) || !within(what, 0, 1)) return BAD;
        if (!within(from, 1, MOST_SLOPE) || !within(to, from, MOST_SLOPE) || to - from >= MOST_GRADES) return BAD;
        if (fault() != NONE) return NO;
        int[] iron = now.machine.irons[piece];
        int was = iron[0];
        int many = 0;
        int least = NONE;
        for (int s = Math.max(from, iron[2]); s <= to; s++) {
            iron[0] = s;
            if (!allFits()) continue;
            if (many == 0) least = s;
            many++;
        }
        iron[0] = was;
        return what == 0 ? many : least;
    }

    // ---- slots

    public int slots(int s) {
        if (!within(s, LEAST_SLOTS, MOST_SLOTS)) return BAD;
        now.slots.empty(s);
        return 1;
    }

    public int side(int slot, int phase, int sign) {
        if (!within(slot, 0, now.slots.many - 1) || !isPhase(phase) || !within(sign, -1, 1)) return BAD;
        now.slots.phases[slot] = phase;
        now.slots.signs[slot] = sign;
        return 1;
    }

    public int wide() {
        stars.begin(now.slots.many);
        return stars.width;
    }

    public int star(int phase, int k, int i) {
        if (!isPhase(phase) || !isWave(k)) return BAD_STAR;
        stars.begin(now.slots.many);
        if (!within(i, 0, stars.width - 1)) return BAD_STAR;
        stars.add(now.slots, phase, k, 0, 1);
        stars.shorten();
        return stars.row[i];
    }

    public int even(int k) {
        if (!isWave(k)) return BAD;
        if (now.slots.many % PHASES != 0) return 0;
        return isTurned(0, 1, k) && isTurned(1, 2, k) ? 1 : 0;
    }

    public int span(int k, int i) {
        if (!isWave(k) || i < 0) return BAD;
        stars.begin(now.slots.many);
        stars.add(now.slots, 0, k, 0, 1);
        stars.shorten();
        boolean nought = stars.isNought();
        int many = 0;
        for (int c = 1; c < now.slots.many; c++) {
            // The span's star is the star times (1 less the turn by k c): nought just where one of the two is.
            if (!nought && k * c % now.slots.many != 0) continue;
            if (many == i) return c;
            many++;
        }
        return NONE;
    }

    // ---- switched, warm

    public int feed(int v, int r, int l) {
        if (!within(v, 0, 10000) || !within(r, 0, 1000) || !within(l, 1, 100000)) return BAD;
        now.drive.v = v;
        now.drive.r = r;
        now.drive.l = l;
        return 1;
    }

    public int limits(int high, int low) {
        if (!within(high, 0, 1000000) || !within(low, 0, high)) return BAD;
        now.drive.high = high;
        now.drive.low = low;
        return 1;
    }

    public int run(int n) {
        if (!within(n, 1, MOST_TICKS)) return BAD;
        for (int t = 0; t < n; t++) now.drive.tick();
        return now.drive.tell(0);
    }

    public int ran(int what) {
        return within(what, 0, 3) ? now.drive.tell(what) : BAD;
    }

    public int body(int body, int room, int heat, int out) {
        if (!isBody(body) || !within(room, 1, 1000) || !within(heat, 0, 100000) || !within(out, 0, 100)) return BAD;
        now.bodies.rooms[body] = room;
        now.bodies.heats[body] = heat;
        now.bodies.outs[body] = out;
        return 1;
    }

    public int joint(int a, int b, int v) {
        if (!isBody(a) || !isBody(b) || a == b || !within(v, 0, 100)) return BAD;
        now.bodies.joints[a][b] = v;
        now.bodies.joints[b][a] = v;
        return 1;
    }

    public int warm(int n) {
        if (!within(n, 1, MOST_TICKS)) return BAD;
        now.bodies.goOn(n);
        return (int) now.bodies.warmths[0];
    }

    public int warmth(int body) {
        return isBody(body) ? (int) now.bodies.warmths[body] : BAD;
    }

    public int first(int body, int bound) {
        if (!isBody(body) || !within(bound, 0, HOTTEST)) return BAD;
        return now.bodies.firstAbove(body, bound);
    }

    // ---- images

    public int image(int i) {
        if (!within(i, 0, IMAGES - 1)) return BAD;
        images[i].copy(now);
        kept[i] = true;
        return 1;
    }

    public int from(int i) {
        if (!within(i, 0, IMAGES - 1)) return BAD;
        if (!kept[i]) return NO;
        now.copy(images[i]);
        return 1;
    }

    public int count(int what) {
        switch (what) {
            case 0: return now.machine.pieces;
            case 1: return now.machine.length;
            case 2: return now.seen.rows;
            case 3: return now.machine.turnNow;
            case 4: return now.slots.many;
            case 5: return now.slots.sides();
            default: return BAD;
        }
    }

    public long digest() {
        long h = 337;
        for (int what = 0; what <= 5; what++) h = 31 * h + count(what);
        h = now.machine.fold(h);
        h = now.seen.fold(h);
        h = now.slots.fold(h);
        for (int what = 0; what <= 3; what++) h = 31 * h + ran(what);
        for (int b = 0; b < BODIES; b++) h = 31 * h + now.bodies.warmths[b];
        return h;
    }

    // ---- what numbers may be

    private static boolean within(int v, int least, int most) {
        return v >= least && v <= most;
    }

    private boolean isPiece(int piece) {
        return within(piece, 0, now.machine.pieces - 1);
    }

    private static boolean isTurn(int turn) {
        return within(turn, 0, TURNS - 1);
    }

    private static boolean isWinding(int winding) {
        return within(winding, 0, WINDINGS - 1);
    }

    private static boolean isPhase(int phase) {
        return within(phase, 0, PHASES - 1);
    }

    private static boolean isWave(int k) {
        return within(k, 0, MOST_WAVES);
    }

    private static boolean isBody(int body) {
        return within(body, 0, BODIES - 1);
    }

    // ---- helpers of the calls; those that ask for the rest need a path that was read without a fault

    private Whole half(int part) {
        return part == 0 ? fraction.above : fraction.below;
    }

    /** Brings THE FRACTION to lowest terms: its sign. */
    private int shorten() {
        fraction.shorten();
        return fraction.above.sign;
    }

    private void link(int winding, Ratio to) {
        rest.settle(now.machine, path, now.machine.turnNow);
        rest.putLinked(now.machine.wound[winding], to);
    }

    private void storeAt(int turn, Ratio to) {
        rest.settle(now.machine, path, turn);
        rest.putStored(now.machine, to);
    }

    private void findPushes() {
        storeAt(0, here);
        for (int t = 0; t < TURNS; t++) {
            int behind = (t + 1) % TURNS;
            pushes[t] = 0;
            if (now.machine.isAlike(t, behind)) continue;
            storeAt(behind, next);
            pushes[t] = next.compare(here);
            here.copy(next);
        }
    }

    private boolean allFits() {
        int settled = NONE;
        for (int i = 0; i < now.seen.rows && i < ROWS; i++) {
            int turn = now.seen.turns[i];
            if (turn != settled) rest.settle(now.machine, path, turn);
            settled = turn;
            if (!rest.hasFlow(now.seen.pieces[i], now.seen.flows[i])) return false;
        }
        return true;
    }

    private boolean fitsWithCurrent(int winding, int v, boolean right) {
        int was = now.machine.currents[winding];
        if (v == was) return right;
        now.machine.currents[winding] = v;
        boolean fits = allFits();
        now.machine.currents[winding] = was;
        return fits;
    }

    private boolean fitsWithoutMagnet(int piece, boolean right) {
        int was = now.machine.magnets[piece];
        if (was == 0) return right;
        now.machine.magnets[piece] = 0;
        boolean fits = allFits();
        now.machine.magnets[piece] = was;
        return fits;
    }

    /** Whether the star of the one phase, turned by k S by 3 parts, is that of the other. */
    private boolean isTurned(int one, int other, int k) {
        stars.begin(now.slots.many);
        stars.add(now.slots, one, k, k * (now.slots.many / PHASES), 1);
        stars.add(now.slots, other, k, 0, -1);
        stars.shorten();
        return stars.isNought();
    }

    /** All that an image keeps. */
    private static final class State {
        final Machine machine = new Machine();
        final Seen seen = new Seen();
        final Slots slots = new Slots();
        final Drive drive = new Drive();
        final Bodies bodies = new Bodies();

        void copy(State other) {
            machine.copy(other.machine);
            seen.copy(other.seen);
            slots.copy(other.slots);
            drive.copy(other.drive);
            bodies.copy(other.bodies);
        }
    }

    /** Pieces, windings, the path's characters and the turn. */
    private static final class Machine {
        private static final int TOLD = 5;

        int pieces;
        // S1, X1, S2, X2, S3 by pieces; all 0 of a gap, and that is how a gap is known.
        final int[][] irons = new int[PIECES][TOLD];
        final int[][] gaps = new int[PIECES][TURNS];
        final int[] magnets = new int[PIECES];
        final int[][] wound = new int[WINDINGS][PIECES];
        final int[] currents = new int[WINDINGS];
        int turnNow;
        final int[] characters = new int[CHARACTERS];
        int length;

        boolean isGap(int piece) {
            return irons[piece][0] == 0;
        }

        int addIron(int s1, int x1, int s2, int x2, int s3) {
            int[] iron = irons[pieces];
            iron[0] = s1;
            iron[1] = x1;
            iron[2] = s2;
            iron[3] = x2;
            iron[4] = s3;
            pieces++;
            return pieces - 1;
        }

        int addGap() {
            for (int t = 0; t < TURNS; t++) gaps[pieces][t] = 10;
            pieces++;
            return pieces - 1;
        }

        int sourceOf(int piece) {
            int sum = magnets[piece];
            for (int w = 0; w < WINDINGS; w++) sum += wound[w][piece] * currents[w];
            return sum;
        }

        /** Whether every gap carries the same at both turns. */
        boolean isAlike(int turn, int other) {
            for (int p = 0; p < pieces; p++) {
                if (isGap(p) && gaps[p][turn] != gaps[p][other]) return false;
            }
            return true;
        }

        void copy(Machine other) {
            pieces = other.pieces;
            turnNow = other.turnNow;
            length = other.length;
            for (int p = 0; p < PIECES; p++) {
                System.arraycopy(other.irons[p], 0, irons[p], 0, TOLD);
                System.arraycopy(other.gaps[p], 0, gaps[p], 0, TURNS);
            }
            for (int w = 0; w < WINDINGS; w++) System.arraycopy(other.wound[w], 0, wound[w], 0, PIECES);
            System.arraycopy(other.magnets, 0, magnets, 0, PIECES);
            System.arraycopy(other.currents, 0, currents, 0, WINDINGS);
            System.arraycopy(other.characters, 0, characters, 0, CHARACTERS);
        }

        long fold(long before) {
            long h = before;
            for (int p = 0; p < pieces; p++) {
                for (int i = 0; i < TOLD; i++) h = 31 * h + irons[p][i];
                h = 31 * h + magnets[p];
                for (int w = 0; w < WINDINGS; w++) h = 31 * h + wound[w][p];
            }
            for (int p = 0; p < pieces; p++) {
                for (int t = 0; t < TURNS && isGap(p); t++) h = 31 * h + gaps[p][t];
            }
            for (int w = 0; w < WINDINGS; w++) h = 31 * h + currents[w];
            for (int i = 0; i < length; i++) h = 31 * h + characters[i];
            return h;
        }
    }

    /** What was seen, row by row. */
    private static final class Seen {
        int rows;
        final int[] turns = new int[ROWS];
        final int[] pieces = new int[ROWS];
        final long[] flows = new long[ROWS];

        int add(int turn, int piece, long flow) {
            turns[rows] = turn;
            pieces[rows] = piece;
            flows[rows] = flow;
            rows++;
            return rows;
        }

        void copy(Seen other) {
            rows = other.rows;
            System.arraycopy(other.turns, 0, turns, 0, ROWS);
            System.arraycopy(other.pieces, 0, pieces, 0, ROWS);
            System.arraycopy(other.flows, 0, flows, 0, ROWS);
        }

        long fold(long before) {
            long h = before;
            for (int i = 0; i < rows; i++) {
                h = 31 * h + turns[i];
                h = 31 * h + pieces[i];
                h = 31 * h + flows[i];
            }
            return h;
        }
    }

    /** Slots, each with the phase and the sign of its coil side; sign 0 where it has none. */
    private static final class Slots {
        int many = 12;
        final int[] phases = new int[MOST_SLOTS];
        final int[] signs = new int[MOST_SLOTS];

        void empty(int s) {
            many = s;
            for (int i = 0; i < MOST_SLOTS; i++) signs[i] = 0;
        }

        int sides() {
            int sum = 0;
            for (int i = 0; i < many; i++) sum += Math.abs(signs[i]);
            return sum;
        }

        void copy(Slots other) {
            many = other.many;
            System.arraycopy(other.phases, 0, phases, 0, MOST_SLOTS);
            System.arraycopy(other.signs, 0, signs, 0, MOST_SLOTS);
        }

        long fold(long before) {
            long h = before;
            for (int i = 0; i < many; i++) h = 31 * h + signs[i] * (10 + phases[i]);
            return h;
        }
    }

    /** Sums of S-th parts of a whole turn, as the one row of whole numbers that tells such a sum. */
    private static final class Stars {
        private static final int MOST_TERMS = 40;

        int width;
        final int[] row = new int[MOST_SLOTS];
        private int parts;
        // The shortest equation of z, lowest power first, as the row of its numbers; its highest number is 1.
        private final int[] equation = new int[MOST_TERMS];

        /** An empty sum for so many slots. */
        void begin(int s) {
            for (int i = 0; i < MOST_SLOTS; i++) row[i] = 0;
            if (s != parts) findEquation(s);
        }

        /** The turns by d of S have z^d = 1: products and quotients of (z^d - 1) leave those that no smaller d has. */
        private void findEquation(int s) {
            parts = s;
            width = 0;
            for (int i = 0; i < MOST_TERMS; i++) equation[i] = i == 0 ? 1 : 0;
            for (int d = 1; d <= s; d++) {
                if (s % d == 0 && kindOf(s / d) == 1) multiply(d);
            }
            for (int d = 1; d <= s; d++) {
                if (s % d == 0 && kindOf(s / d) == -1) divide(d);
            }
        }

        /** 0 with a square in n, else 1 or -1 as its primes are even or odd in number. */
        private static int kindOf(int n) {
            int left = n;
            int kind = 1;
            for (int prime = 2; prime <= n; prime++) {
                if (left % prime != 0) continue;
                left /= prime;
                if (left % prime == 0) return 0;
                kind = -kind;
            }
            return kind;
        }

        private void multiply(int d) {
            for (int i = MOST_TERMS - 1; i >= 0; i--) equation[i] = (i >= d ? equation[i - d] : 0) - equation[i];
            width += d;
        }

        private void divide(int d) {
            for (int i = 0; i < MOST_TERMS; i++) equation[i] = (i >= d ? equation[i - d] : 0) - equation[i];
            width -= d;
        }

        /** Adds the star of a phase, turned by so many parts, with a sign. */
        void add(Slots slots, int phase, int k, int shift, int sign) {
            for (int s = 0; s < slots.many; s++) {
                if (slots.phases[s] != phase || slots.signs[s] == 0) continue;
                row[(k * s + shift) % slots.many] += sign * slots.signs[s];
            }
        }

        /** Brings the sum to its first numbers, as many as its width. */
        void shorten() {
            for (int high = parts - 1; high >= width; high--) {
                int much = row[high];
                for (int i = 0; i <= width; i++) row[high - width + i] -= much * equation[i];
            }
        }

        boolean isNought() {
            for (int i = 0; i < width; i++) {
                if (row[i] != 0) return false;
            }
            return true;
        }
    }

    /** The switched winding. */
    private static final class Drive {
        int v;
        int r;
        int l = 1;
        int high = 1000;
        int low = 900;
        private long i;
        private boolean on = true;
        private int switches;
        private int ticks;

        void tick() {
            if (on ? i >= high : i <= low) {
                on = !on;
                switches++;
            }
            long more = (on ? 1000L * v : 0) - r * i;
            i = Math.max(0, i + more / Math.max(1, l));
            ticks++;
        }

        int tell(int what) {
            switch (what) {
                case 0: return (int) i;
                case 1: return on ? 1 : 0;
                case 2: return switches;
                default: return ticks;
            }
        }

        void copy(Drive other) {
            v = other.v;
            r = other.r;
            l = other.l;
            high = other.high;
            low = other.low;
            i = other.i;
            on = other.on;
            switches = other.switches;
            ticks = other.ticks;
        }
    }

    /** The net of warm bodies. */
    private static final class Bodies {
        final long[] warmths = new long[BODIES];
        final int[] rooms = {10, 10, 10, 10};
        final int[] heats = new int[BODIES];
        final int[] outs = {1, 1, 1, 1};
        final int[][] joints = new int[BODIES][BODIES];
        private final long[] behind = new long[BODIES];
        private final long[] before = new long[BODIES];

        /** One tick: whether any warmth changed. */
        private boolean tick() {
            boolean changed = false;
            for (int b = 0; b < BODIES; b++) {
                long more = heats[b] - outs[b] * warmths[b];
                for (int o = 0; o < BODIES; o++) more += joints[b][o] * (warmths[o] - warmths[b]);
                behind[b] = Math.min(HOTTEST, Math.max(0, warmths[b] + more / Math.max(1, rooms[b])));
                if (behind[b] != warmths[b]) changed = true;
            }
            System.arraycopy(behind, 0, warmths, 0, BODIES);
            return changed;
        }

        void goOn(int n) {
            for (int t = 0; t < n; t++) {
                // What a tick leaves as it was, all later ones leave as well.
                if (!tick()) return;
            }
        }

        int firstAbove(int body, int bound) {
            System.arraycopy(warmths, 0, before, 0, BODIES);
            int found = NONE;
            boolean changes = true;
            for (int t = 1; t <= MOST_TICKS && changes && found == NONE; t++) {
                changes = tick();
                if (warmths[body] > bound) found = t;
            }
            System.arraycopy(before, 0, warmths, 0, BODIES);
            return found;
        }

        void copy(Bodies other) {
            System.arraycopy(other.warmths, 0, warmths, 0, BODIES);
            System.arraycopy(other.rooms, 0, rooms, 0, BODIES);
            System.arraycopy(other.heats, 0, heats, 0, BODIES);
            System.arraycopy(other.outs, 0, outs, 0, BODIES);
            for (int b = 0; b < BODIES; b++) System.arraycopy(other.joints[b], 0, joints[b], 0, BODIES);
        }
    }

    /** The path, read into nodes: pieces, and pairs of nodes behind or beside one another. Parts come ahead of the whole. */
    private static final class Path {
        static final int PIECE = 0, BEHIND = 1, BESIDE = 2;
        private static final int NODES = 13, MOST_OPEN = 8;

        int nodes;
        final int[] kinds = new int[NODES];
        final int[] firsts = new int[NODES];
        final int[] seconds = new int[NODES];
        // The node of each piece; NONE of those that the path leaves out.
        final int[] leaves = new int[PIECES];
        private final int[] signs = new int[CHARACTERS];
        private int waiting;
        private final int[] ends = new int[NODES];
        private int ended;
        private int open;

        /** Reads the path: its fault, or NONE. */
        int read(Machine machine) {
            nodes = 0;
            waiting = 0;
            ended = 0;
            open = 0;
            for (int p = 0; p < PIECES; p++) leaves[p] = NONE;
            boolean endDue = true;
            for (int i = 0; i < machine.length && i < CHARACTERS; i++) {
                int c = machine.characters[i];
                if (c == ' ') continue;
                int wrong = endDue ? takeEnd(machine, c) : takeSign(c);
                if (wrong != 0) return 10 * i + wrong;
                endDue = endDue ? c == '(' : c != ')';
            }
            if (endDue || open > 0) return 10 * machine.length + 1;
            joinAll(false);
            return NONE;
        }

        private int takeEnd(Machine machine, int c) {
            if (c == '(') {
                if (open == MOST_OPEN) return 4;
                open++;
                hold(c);
                return 0;
            }
            int piece = c - 'a';
            if (piece < 0 || piece >= PIECES) return 1;
            if (piece >= machine.pieces) return 2;
            if (leaves[piece] != NONE) return 3;
            leaves[piece] = nodes;
            addNode(PIECE, piece, piece);
            return 0;
        }

        private int takeSign(int c) {
            if (c == ')') {
                if (open == 0) return 1;
                open--;
                joinAll(false);
                if (waiting > 0) waiting--;
                return 0;
            }
            if (c != '-' && c != '|') return 1;
            joinAll(c == '-');
            hold(c);
            return 0;
        }

        private void hold(int sign) {
            if (waiting >= CHARACTERS) return;
            signs[waiting] = sign;
            waiting++;
        }

        /** Joins what waits, back to the last ( that is open; with the flag just what is behind one another. */
        private void joinAll(boolean justBehind) {
            for (int i = 0; i < CHARACTERS && waiting > 0; i++) {
                int sign = signs[waiting - 1];
                if (sign == '(' || sign == '|' && justBehind || ended < 2) return;
                waiting--;
                ended -= 2;
                addNode(sign == '-' ? BEHIND : BESIDE, ends[ended], ends[ended + 1]);
            }
        }

        private void addNode(int kind, int first, int second) {
            if (nodes >= NODES || ended >= NODES) return;
            kinds[nodes] = kind;
            firsts[nodes] = first;
            seconds[nodes] = second;
            ends[ended] = nodes;
            ended++;
            nodes++;
        }
    }

    /**
     * The one rest of a machine at a turn, in whole numbers above one number that is below all of them.
     *
     * With a part chosen for each piece the machine is linear: flow times q is p times drop and r, for each
     * node of the path, and r by q of the whole is known, as its drop is 0. The parts that the answer shows are
     * tried next; where all are as chosen, that is the rest, as there is just one. If some tries do not get
     * there, the sure way is gone: a drop of the whole from far below 0 up to 0. Each push only rises on that
     * way, so that the parts are met one behind the other.
     */
    private static final class Rest {
        private static final int GUESSES = 8, STEPS = 64;
        private static final int LOWEST = -2, HIGHEST = 2;

        // Below all that the rest tells: by the rule of determinants each flow, drop and push is whole above it.
        final Whole below = new Whole();
        // The push over each piece, above `below`.
        final Whole[] x = wholes(PIECES);
        private Path path;
        private final int[] sources = new int[PIECES];
        // -2 .. 2: the part of each iron, with the sign of its push.
        private final int[] parts = new int[PIECES];
        private final int[] slopes = new int[PIECES];
        private final long[] offsets = new long[PIECES];
        // Sums of products of up to seven slopes, no product twice: under 2^54.
        private final long[] p = new long[Path.NODES];
        private final long[] q = new long[Path.NODES];
        private final Whole[] r = wholes(Path.NODES);
        private final Whole[] flows = wholes(Path.NODES);
        private final Whole[] drops = wholes(Path.NODES);
        private final Whole[] excess = wholes(PIECES);
        private final Whole one = new Whole();
        private final Whole two = new Whole();
        private final Whole three = new Whole();
        private final Whole left = new Whole();

        private static Whole[] wholes(int n) {
            Whole[] row = new Whole[n];
            for (int i = 0; i < n; i++) row[i] = new Whole();
            return row;
        }

        void settle(Machine machine, Path read, int turn) {
            path = read;
            for (int i = 0; i < PIECES; i++) {
                sources[i] = i < machine.pieces ? machine.sourceOf(i) : 0;
                x[i].put(0);
                // The parts found last are a good first try for the next rest.
                if (!isIron(machine, i)) parts[i] = 0;
            }
            for (int step = 0; step < STEPS; step++) {
                if (step == GUESSES) goLowest(machine);
                for (int i = 0; i < machine.pieces; i++) takeLine(machine, i, turn);
                joinUp();
                shareDown(true);
                for (int i = 0; i < PIECES; i++) findPush(i);
                boolean sure = step >= GUESSES;
                if (sure ? !isBeyond(machine) : !guess(machine)) return;
                if (!sure) continue;
                shareDown(false);
                leaveFirst(machine);
            }
        }

        private boolean isIron(Machine machine, int piece) {
            return piece < machine.pieces && !machine.isGap(piece);
        }

        private void goLowest(Machine machine) {
            for (int i = 0; i < PIECES; i++) parts[i] = isIron(machine, i) ? LOWEST : 0;
        }

        /** The straight line of a piece's part: its flow is slope times push and offset. */
        private void takeLine(Machine machine, int piece, int turn) {
            int[] iron = machine.irons[piece];
            int part = Math.abs(parts[piece]);
            slopes[piece] = machine.isGap(piece) ? machine.gaps[piece][turn] : iron[2 * part];
            long offset = 0;
            if (part > 0) offset += (long) (iron[0] - iron[2]) * iron[1];
            if (part > 1) offset += (long) (iron[2] - iron[4]) * iron[3];
            offsets[piece] = parts[piece] < 0 ? -offset : offset;
        }

        private void joinUp() {
            for (int n = 0; n < path.nodes; n++) {
                int a = path.firsts[n];
                int b = path.seconds[n];
                if (path.kinds[n] == Path.PIECE) {
                    p[n] = slopes[a];
                    q[n] = 1;
                    r[n].put((long) slopes[a] * sources[a] + offsets[a]);
                    continue;
                }
                boolean behind = path.kinds[n] == Path.BEHIND;
                long crossed = p[a] * q[b] + p[b] * q[a];
                p[n] = behind ? p[a] * p[b] : crossed;
                q[n] = behind ? crossed : q[a] * q[b];
                one.times(r[a], behind ? p[b] : q[b]);
                two.times(r[b], behind ? p[a] : q[a]);
                r[n].sum(one, 1, two);
            }
        }

        /**
         * Flow and drop of each node, from the whole down. With the sources: above `below`, at drop 0 of the
         * whole. Without: by how much each rises (above `below`) with a drop of the whole that is 1 more.
         */
        private void shareDown(boolean withSources) {
            int root = path.nodes - 1;
            if (root < 0) return;
            below.put(q[root]);
            drops[root].put(withSources ? 0 : q[root]);
            flows[root].put(p[root]);
            if (withSources) flows[root].copy(r[root]);
            for (int n = root; n >= 0; n--) {
                if (path.kinds[n] == Path.PIECE) continue;
                boolean behind = path.kinds[n] == Path.BEHIND;
                int a = path.firsts[n];
                int b = path.seconds[n];
                Whole[] same = behind ? flows : drops;
                Whole[] shared = behind ? drops : flows;
                same[a].copy(same[n]);
                same[b].copy(same[n]);
                one.times(same[n], behind ? q[b] : p[b]);
                two.times(r[b], withSources ? q[root] : 0);
                three.sum(one, behind ? -1 : 1, two);
                two.put(behind ? p[b] : q[b]);
                shared[b].divide(three, two, left);
                shared[a].sum(shared[n], -1, shared[b]);
            }
        }

        private void findPush(int piece) {
            int leaf = path.leaves[piece];
            if (leaf == NONE) return;
            one.times(below, sources[piece]);
            x[piece].sum(drops[leaf], 1, one);
        }

        /** The part that a piece's push shows, with the sign of the push. */
        int partSeen(Machine machine, int piece) {
            if (!isIron(machine, piece)) return 0;
            int part = 0;
            for (int i = 1; i <= 3; i += 2) {
                one.times(below, machine.irons[piece][i]);
                if (Whole.compareSizes(x[piece], one) > 0) part++;
            }
            return part * x[piece].sign;
        }

        /** Takes the parts that the pushes show: whether they are others. */
        private boolean guess(Machine machine) {
            boolean moved = false;
            for (int i = 0; i < machine.pieces; i++) {
                int part = partSeen(machine, i);
                if (part != parts[i]) moved = true;
                parts[i] = part;
            }
            return moved;
        }

        /** Finds how far each piece is beyond its part: whether any is. */
        private boolean isBeyond(Machine machine) {
            boolean any = false;
            for (int i = 0; i < machine.pieces; i++) {
                excess[i].put(0);
                if (path.leaves[i] == NONE || !isIron(machine, i) || parts[i] == HIGHEST) continue;
                one.times(below, upperEnd(machine.irons[i], parts[i]));
                excess[i].sum(x[i], -1, one);
                if (excess[i].sign > 0) any = true;
            }
            return any;
        }

        private static int upperEnd(int[] iron, int part) {
            int end = part == -1 || part == 0 ? iron[1] : iron[3];
            return part < 0 ? -end : end;
        }

        /** Of the pieces beyond their parts, the one that left its part first goes into its next one. */
        private void leaveFirst(Machine machine) {
            int best = NONE;
            for (int i = 0; i < machine.pieces; i++) {
                if (excess[i].sign <= 0) continue;
                if (best == NONE || isEarlier(i, best)) best = i;
            }
            if (best != NONE) parts[best]++;
        }

        /** Whether the first piece left its part ahead of the other: so much the more of the drop is behind that. */
        private boolean isEarlier(int i, int other) {
            one.product(excess[i], drops[path.leaves[other]]);
            two.product(excess[other], drops[path.leaves[i]]);
            three.sum(one, -1, two);
            return three.sign > 0;
        }

        // ---- what a settled rest tells

        void putFlow(int piece, Ratio to) {
            to.below.copy(below);
            to.above.put(0);
            if (path.leaves[piece] != NONE) to.above.copy(flows[path.leaves[piece]]);
        }

        void putPush(int piece, Ratio to) {
            to.below.copy(below);
            to.above.copy(x[piece]);
        }

        void putLinked(int[] turns, Ratio to) {
            to.below.copy(below);
            to.above.put(0);
            for (int i = 0; i < PIECES; i++) {
                if (path.leaves[i] == NONE) continue;
                one.times(flows[path.leaves[i]], turns[i]);
                to.above.sum(to.above, 1, one);
            }
        }

        /** Twice the area of a part's line from 0 on is slope x x and 2 offset x, less what the parts ahead of it fall short. */
        void putStored(Machine machine, Ratio to) {
            to.above.put(0);
            for (int i = 0; i < machine.pieces; i++) {
                if (path.leaves[i] == NONE) continue;
                one.times(x[i], slopes[i]);
                two.times(below, 2 * offsets[i]);
                three.sum(one, 1, two);
                one.product(three, x[i]);
                to.above.sum(to.above, 1, one);
                two.times(below, shortfall(machine.irons[i], Math.abs(parts[i])));
                one.product(two, below);
                to.above.sum(to.above, -1, one);
            }
            one.product(below, below);
            to.below.times(one, 2);
        }

        private static long shortfall(int[] iron, int part) {
            long sum = 0;
            if (part > 0) sum += (long) (iron[0] - iron[2]) * iron[1] * iron[1];
            if (part > 1) sum += (long) (iron[2] - iron[4]) * iron[3] * iron[3];
            return sum;
        }

        /** Whether the flow of a piece, cut down, is this whole number. */
        boolean hasFlow(int piece, long flow) {
            one.times(below, flow);
            two.put(0);
            if (path.leaves[piece] != NONE) two.copy(flows[path.leaves[piece]]);
            three.sum(two, -1, one);
            return three.sign >= 0 && Whole.compareSizes(three, below) < 0;
        }
    }

    /** A fraction; its number below is above 0. */
    private static final class Ratio {
        private static final int MOST_STEPS = 1000000;

        final Whole above = new Whole();
        final Whole below = new Whole();
        private final Whole one = new Whole();
        private final Whole two = new Whole();
        private final Whole three = new Whole();
        private final Whole left = new Whole();

        Ratio() {
            below.put(1);
        }

        void copy(Ratio other) {
            above.copy(other.above);
            below.copy(other.below);
        }

        /** This is a less b, not in lowest terms. */
        void difference(Ratio a, Ratio b) {
            one.product(a.above, b.below);
            two.product(b.above, a.below);
            above.sum(one, -1, two);
            below.product(a.below, b.below);
        }

        /** The sign of this less the other. */
        int compare(Ratio other) {
            one.product(above, other.below);
            two.product(other.above, below);
            three.sum(one, -1, two);
            return three.sign;
        }

        /** Brings this to lowest terms. */
        void shorten() {
            findShared();
            if (one.isOne()) return;
            three.divide(above, one, left);
            above.copy(three);
            three.divide(below, one, left);
            below.copy(three);
        }

        /** The greatest number that both halves share is put in `one`. */
        private void findShared() {
            one.copy(below);
            two.copy(above);
            two.dropSign();
            for (int i = 0; i < MOST_STEPS && two.sign != 0; i++) {
                if (one.isShort() && two.isShort()) {
                    one.put(shared(one.asLong(), two.asLong()));
                    return;
                }
                three.divide(one, two, left);
                one.copy(two);
                two.copy(left);
            }
        }

        private static long shared(long a, long b) {
            long big = a;
            long small = b;
            for (int i = 0; i < MOST_STEPS && small != 0; i++) {
                long rest = big % small;
                big = small;
                small = rest;
            }
            return big;
        }

        /** The whole number at or below this, brought to the farthest that are told. */
        long cutDown() {
            one.divide(above, below, left);
            if (!one.isShort()) return one.sign * FARTHEST;
            long whole = one.asLong();
            if (left.sign < 0) whole--;
            return Math.max(-FARTHEST, Math.min(FARTHEST, whole));
        }
    }

    /** A whole number of any sign, in limbs of 30 bits; 10 limbs are the most that the calls need. */
    private static final class Whole {
        private static final int LIMBS = 16, BITS = 30;
        private static final long BASE = 1L << BITS, MASK = BASE - 1;

        final long[] limb = new long[LIMBS];
        int size;
        int sign;

        void put(long v) {
            long much = Math.abs(v);
            limb[0] = much & MASK;
            limb[1] = much >>> BITS & MASK;
            limb[2] = much >>> 2 * BITS;
            finish(3, v < 0 ? -1 : 1);
        }

        void copy(Whole other) {
            System.arraycopy(other.limb, 0, limb, 0, other.size);
            size = other.size;
            sign = other.sign;
        }

        void dropSign() {
            sign = Math.abs(sign);
        }

        boolean isOne() {
            return size == 1 && limb[0] == 1 && sign == 1;
        }

        boolean isShort() {
            return size <= 2;
        }

        /** What a short number is. */
        long asLong() {
            long much = size > 0 ? limb[0] : 0;
            if (size > 1) much += limb[1] << BITS;
            return sign * much;
        }

        private void finish(int limbs, int itsSign) {
            size = limbs;
            while (size > 0 && limb[size - 1] == 0) size--;
            sign = size == 0 ? 0 : itsSign;
        }

        static int compareSizes(Whole a, Whole b) {
            if (a.size != b.size) return a.size < b.size ? -1 : 1;
            for (int i = a.size - 1; i >= 0; i--) {
                if (a.limb[i] != b.limb[i]) return a.limb[i] < b.limb[i] ? -1 : 1;
            }
            return 0;
        }

        /** This is a and bSign times b; it may be a or b. */
        void sum(Whole a, int bSign, Whole b) {
            int other = bSign * b.sign;
            boolean aIsMore = compareSizes(a, b) >= 0;
            Whole more = aIsMore ? a : b;
            Whole less = aIsMore ? b : a;
            int itsSign = aIsMore && a.sign != 0 ? a.sign : other;
            int way = a.sign * other < 0 ? -1 : 1;
            int lessSize = less.size;
            int n = Math.min(LIMBS, more.size + 1);
            long carry = 0;
            int moreSize = more.size;
            for (int i = 0; i < n; i++) {
                if (i < moreSize) carry += more.limb[i];
                if (i < lessSize) carry += way * less.limb[i];
                limb[i] = carry & MASK;
                carry >>= BITS;
            }
            finish(n, itsSign);
        }

        /** This is a times m, with m less than 2^60 on both sides of 0; it may be a. */
        void times(Whole a, long m) {
            long much = Math.abs(m);
            long low = much & MASK;
            long high = much >>> BITS;
            int itsSign = m < 0 ? -a.sign : a.sign;
            int aSize = a.size;
            int n = Math.min(LIMBS, aSize + 2);
            long carry = 0;
            long before = 0;
            for (int i = 0; i < n; i++) {
                long here = i < aSize ? a.limb[i] : 0;
                carry += here * low + before * high;
                limb[i] = carry & MASK;
                carry >>>= BITS;
                before = here;
            }
            finish(n, itsSign);
        }

        /** This is a times b; it is neither. */
        void product(Whole a, Whole b) {
            int n = Math.min(LIMBS, a.size + b.size);
            for (int i = 0; i < n; i++) limb[i] = 0;
            for (int i = 0; i < a.size; i++) {
                long carry = 0;
                for (int j = 0; i + j < n && j <= b.size; j++) {
                    carry += limb[i + j];
                    if (j < b.size) carry += a.limb[i] * b.limb[j];
                    limb[i + j] = carry & MASK;
                    carry >>>= BITS;
                }
            }
            finish(n, a.sign * b.sign);
        }

        /** This is a by b, cut toward 0, and rest what is left of a; all are others. By 0 it is 0. */
        void divide(Whole a, Whole b, Whole rest) {
            rest.copy(a);
            size = 0;
            sign = 0;
            int n = b.size;
            if (n == 0 || a.size < n || a.size >= LIMBS) return;
            int limbs = a.size - n + 1;
            // By a divisor whose highest limb is half the base or more a digit's first guess is 2 too much at most.
            int shift = Long.numberOfLeadingZeros(b.limb[n - 1]) - (64 - BITS);
            rest.shiftUp(shift);
            for (int j = limbs - 1; j >= 0; j--) limb[j] = rest.takeOut(b, shift, j);
            rest.shiftDown(shift, n, a.sign);
            finish(limbs, a.sign * b.sign);
        }

        /** One limb of a quotient: how often the divisor, moved up by j limbs, goes into this; so much is taken out. */
        private long takeOut(Whole b, int shift, int j) {
            int n = b.size;
            long highest = b.shifted(n - 1, shift);
            if (highest == 0) return 0;
            long top = (limb[j + n] << BITS) + limb[j + n - 1];
            long digit = Math.min(MASK, top / highest);
            if (n > 1) {
                long second = b.shifted(n - 2, shift);
                for (int k = 0; k < 3; k++) {
                    long over = top - digit * highest;
                    if (over < BASE && digit * second > (over << BITS) + limb[j + n - 2]) digit--;
                }
            }
            long carry = 0;
            for (int i = 0; i < n; i++) {
                carry += limb[i + j] - digit * b.shifted(i, shift);
                limb[i + j] = carry & MASK;
                carry >>= BITS;
            }
            carry += limb[j + n];
            limb[j + n] = 0;
            if (carry >= 0) return digit;
            carry = 0;
            for (int i = 0; i < n; i++) {
                carry += limb[i + j] + b.shifted(i, shift);
                limb[i + j] = carry & MASK;
                carry >>= BITS;
            }
            return digit - 1;
        }

        /** Limb i of this number moved up by so many bits. */
        private long shifted(int i, int shift) {
            long low = i > 0 ? limb[i - 1] >>> BITS - shift : 0;
            return limb[i] << shift & MASK | low;
        }

        /** Moves this up by so many bits, into one limb more. */
        private void shiftUp(int shift) {
            limb[size] = 0;
            for (int i = size; i >= 0; i--) limb[i] = shifted(i, shift);
            size++;
        }

        private void shiftDown(int shift, int limbs, int itsSign) {
            limb[limbs] = 0;
            for (int i = 0; i < limbs; i++) limb[i] = limb[i] >>> shift | limb[i + 1] << BITS - shift & MASK;
            finish(limbs, itsSign);
        }
    }
}
