import java.util.Arrays;

/**
 * Promises 1 to 12, 24, 25 and 28 to 46 by long rows of made-up calls, right and wrong ones, each beside a plain
 * mirror of what the document tells. After every call the digest has to be the mirror's, so that a refused call
 * that changes something is seen as well.
 */
public final class CoilWorksMirror {
    // An object is used for at most 512 calls; one round makes no more than 32 of them.
    private static final int ROWS = 3000, MOST_CALLS = 512 - 32;
    private static final int BAD = -2, NO = -3, FULL = -4;
    private static int wrong = 0;
    private static int calls = 0;
    private static long seed = 42L;

    public static void main(String[] args) {
        for (int i = 0; i < ROWS; i++) run(i);
        System.out.println(wrong == 0 ? "mirror: " + ROWS + " rows of calls are as due" : "mirror: " + wrong + " answers are not as due");
        if (wrong != 0) System.exit(1);
    }

    private static int any(int least, int most) {
        seed = seed * 6364136223846793005L + 1442695040888963407L;
        return least + (int) Long.remainderUnsigned(seed >>> 20, most - least + 1L);
    }

    /** A number of the range, often its ends, at times just outside or far outside. */
    private static int arg(int least, int most) {
        switch (any(0, 19)) {
            case 0: return least - 1;
            case 1: return most + 1;
            case 2: return any(0, 1) == 0 ? Integer.MAX_VALUE : Integer.MIN_VALUE;
            case 3: return least;
            case 4: return most;
            default: return any(least, most);
        }
    }

    private static boolean in(long v, long least, long most) {
        return v >= least && v <= most;
    }

    private static void run(int number) {
        CoilWorks c = new CoilWorks();
        Mirror m = new Mirror();
        Mirror[] images = new Mirror[2];
        calls = 0;
        for (int i = 0; calls < MOST_CALLS; i++) {
            int which = any(0, 32);
            String call = "row " + number + ", call " + i;
            if (which == 0) {
                int image = arg(0, 1);
                due(call + ": image", c.image(image), in(image, 0, 1) ? 1 : BAD);
                if (in(image, 0, 1)) images[image] = m.copy();
            } else if (which == 1) {
                int image = arg(0, 1);
                boolean is = in(image, 0, 1);
                due(call + ": from", c.from(image), !is ? BAD : images[image] == null ? NO : 1);
                if (is && images[image] != null) m = images[image].copy();
            } else {
                m.call(c, which, call);
            }
            due(call + " of kind " + which + ": digest behind it", c.digest(), m.digest());
            if (wrong > 20) return;
        }
    }

    /** Each due stands for one call of the object. */
    private static void due(String what, long got, long want) {
        calls++;
        if (got == want) return;
        wrong++;
        if (wrong < 20) System.out.println(what + " answered " + got + ", due is " + want);
    }

    private static final class Mirror {
        int pieces, turn, length, seen, s = 12;
        int[][] iron = new int[7][5], gap = new int[7][24], turns = new int[4][7];
        int[] magnet = new int[7], current = new int[4], path = new int[40];
        long[][] rows = new long[6][3];
        int[][] slot = new int[24][2];
        int v, r, l = 1, high = 1000, low = 900, switches, ticks;
        long i;
        boolean on = true;
        int[] room = {10, 10, 10, 10}, heat = new int[4], out = {1, 1, 1, 1};
        int[][] joint = new int[4][4];
        long[] warmth = new long[4];

        Mirror copy() {
            Mirror o = new Mirror();
            o.pieces = pieces;
            o.turn = turn;
            o.length = length;
            o.seen = seen;
            o.s = s;
            o.iron = deep(iron);
            o.gap = deep(gap);
            o.turns = deep(turns);
            o.slot = deep(slot);
            o.joint = deep(joint);
            o.magnet = magnet.clone();
            o.current = current.clone();
            o.path = path.clone();
            for (int n = 0; n < 6; n++) o.rows[n] = rows[n].clone();
            o.v = v;
            o.r = r;
            o.l = l;
            o.high = high;
            o.low = low;
            o.switches = switches;
            o.ticks = ticks;
            o.i = i;
            o.on = on;
            o.room = room.clone();
            o.heat = heat.clone();
            o.out = out.clone();
            o.warmth = warmth.clone();
            return o;
        }

        static int[][] deep(int[][] a) {
            int[][] b = new int[a.length][];
            for (int n = 0; n < a.length; n++) b[n] = a[n].clone();
            return b;
        }

        long digest() {
            long h = 337;
            for (int n = 0; n < 6; n++) h = 31 * h + count(n);
            for (int p = 0; p < pieces; p++) {
                for (int n = 0; n < 5; n++) h = 31 * h + iron[p][n];
                h = 31 * h + magnet[p];
                for (int w = 0; w < 4; w++) h = 31 * h + turns[w][p];
            }
            for (int p = 0; p < pieces; p++) {
                if (iron[p][0] > 0) continue;
                for (int t = 0; t < 24; t++) h = 31 * h + gap[p][t];
            }
            for (int w = 0; w < 4; w++) h = 31 * h + current[w];
            for (int n = 0; n < length; n++) h = 31 * h + path[n];
            for (int n = 0; n < seen; n++) {
                for (int k = 0; k < 3; k++) h = 31 * h + rows[n][k];
            }
            for (int n = 0; n < s; n++) h = 31 * h + slot[n][1] * (10 + slot[n][0]);
            h = 31 * h + i;
            h = 31 * h + (on ? 1 : 0);
            h = 31 * h + switches;
            h = 31 * h + ticks;
            for (int b = 0; b < 4; b++) h = 31 * h + warmth[b];
            return h;
        }

        int count(int what) {
            int sides = 0;
            for (int n = 0; n < s; n++) sides += slot[n][1] != 0 ? 1 : 0;
            int[] all = {pieces, length, seen, turn, s, sides};
            return what >= 0 && what < 6 ? all[what] : BAD;
        }

        boolean is(int piece) {
            return in(piece, 0, pieces - 1);
        }

        void call(CoilWorks c, int which, String call) {
            if (which < 14) callMachine(c, which, call);
            else if (which < 22) callSlots(c, which, call);
            else callWarm(c, which, call);
        }

        void callMachine(CoilWorks c, int which, String call) {
            switch (which) {
                case 2: {
                    int s1 = arg(1, 200);
                    int s2 = any(0, 5) == 0 ? arg(1, 200) : arg(1, Math.max(1, Math.min(200, s1)));
                    int s3 = any(0, 5) == 0 ? arg(1, 200) : arg(1, Math.max(1, Math.min(200, s2)));
                    int x1 = arg(1, 10000);
                    int x2 = any(0, 5) == 0 ? arg(1, 10000) : arg(in(x1, 1, 9999) ? x1 + 1 : 2, 10000);
                    boolean ok = in(s1, 1, 200) && in(s2, 1, s1) && in(s3, 1, s2) && in(x1, 1, 9999) && in(x2, x1 + 1, 10000);
                    int due = !ok ? BAD : pieces == 7 ? FULL : pieces;
                    due(call + ": iron", c.iron(s1, x1, s2, x2, s3), due);
                    if (due >= 0) iron[pieces++] = new int[] {s1, x1, s2, x2, s3};
                    break;
                }
                case 3: {
                    int due = pieces == 7 ? FULL : pieces;
                    due(call + ": gap", c.gap(), due);
                    if (due < 0) break;
                    iron[pieces] = new int[5];
                    Arrays.fill(gap[pieces++], 10);
                    break;
                }
                case 4: {
                    int p = arg(0, 6);
                    int t = arg(0, 23);
                    int n = arg(1, 200);
                    boolean ok = is(p) && in(t, 0, 23) && in(n, 1, 200) && iron[p][0] == 0;
                    due(call + ": gapAt", c.gapAt(p, t, n), ok ? gap[p][t] : BAD);
                    if (ok) gap[p][t] = n;
                    break;
                }
                case 5: {
                    int p = arg(0, 6);
                    int n = arg(-5000, 5000);
                    boolean ok = is(p) && in(n, -5000, 5000);
                    due(call + ": magnet", c.magnet(p, n), ok ? 1 : BAD);
                    if (ok) magnet[p] = n;
                    break;
                }
                case 6: {
                    int w = arg(0, 3);
                    int p = arg(0, 6);
                    int n = arg(-50, 50);
                    boolean ok = in(w, 0, 3) && is(p) && in(n, -50, 50);
                    due(call + ": turns", c.turns(w, p, n), ok ? 1 : BAD);
                    if (ok) turns[w][p] = n;
                    break;
                }
                case 7: {
                    int w = arg(0, 3);
                    int n = arg(-100, 100);
                    boolean ok = in(w, 0, 3) && in(n, -100, 100);
                    due(call + ": current", c.current(w, n), ok ? 1 : BAD);
                    if (ok) current[w] = n;
                    break;
                }
                case 8: {
                    int p = arg(0, 6);
                    int due = is(p) ? magnet[p] : -1000000;
                    for (int w = 0; w < 4 && is(p); w++) due += turns[w][p] * current[w];
                    due(call + ": source", c.source(p), due);
                    break;
                }
                case 9: {
                    int t = arg(0, 23);
                    due(call + ": turn", c.turn(t), in(t, 0, 23) ? turn : BAD);
                    if (in(t, 0, 23)) turn = t;
                    break;
                }
                case 10: {
                    String signs = "aabbccddeeffgg(())--||  h`A\t";
                    int sign = any(0, 3) == 0 ? arg(0, 127) : signs.charAt(any(0, signs.length() - 1));
                    int due = !in(sign, 0, 127) ? BAD : length == 40 ? FULL : length + 1;
                    due(call + ": write", c.write(sign), due);
                    if (due > 0) path[length++] = sign;
                    break;
                }
                case 11: {
                    if (any(0, 2) > 0) break;
                    due(call + ": erase", c.erase(), length);
                    length = 0;
                    break;
                }
                case 12: {
                    int t = arg(0, 23);
                    int p = arg(0, 6);
                    long far = 1000000000000L;
                    long f = any(0, 3) > 0 ? any(-999, 999) : far * any(-1, 1) + any(-1, 1);
                    if (any(0, 9) == 0) f = any(0, 1) == 0 ? Long.MIN_VALUE : Long.MAX_VALUE;
                    int due = !(in(t, 0, 23) && is(p) && in(f, -far, far)) ? BAD : seen == 6 ? FULL : seen + 1;
                    due(call + ": see", c.see(t, p, f), due);
                    if (due > 0) rows[seen++] = new long[] {t, p, f};
                    break;
                }
                default:
                    if (any(0, 2) > 0) break;
                    due(call + ": forget", c.forget(), seen);
                    seen = 0;
            }
            due(call + ": fault of '" + text() + "' with " + pieces, c.fault(), new Reader().fault());
        }

        String text() {
            StringBuilder sum = new StringBuilder();
            for (int n = 0; n < length; n++) sum.append((char) path[n]);
            return sum.toString();
        }

        /** Reads the path from above, as the document's rows of the language stand. */
        final class Reader {
            int at;
            int fault = -1;
            int open;
            boolean[] used = new boolean[7];

            int fault() {
                path();
                skip();
                if (fault < 0 && at < length) fault = 10 * at + 1;
                return fault;
            }

            void skip() {
                while (at < length && path[at] == 32) at++;
            }

            boolean take(char sign) {
                skip();
                if (fault >= 0 || at >= length || path[at] != sign) return false;
                at++;
                return true;
            }

            void path() {
                do road(); while (take('|'));
            }

            void road() {
                do end(); while (take('-'));
            }

            void end() {
                skip();
                if (fault >= 0) return;
                int c = at < length ? path[at] : -1;
                if (c == '(') {
                    if (open == 8) {
                        fault = 10 * at + 4;
                        return;
                    }
                    at++;
                    open++;
                    path();
                    if (fault < 0 && !take(')')) fault = 10 * at + 1;
                    open--;
                    return;
                }
                if (c < 'a' || c > 'g') fault = 10 * at + 1;
                else if (c - 'a' >= pieces) fault = 10 * at + 2;
                else if (used[c - 'a']) fault = 10 * at + 3;
                else used[c - 'a'] = true;
                at++;
            }
        }

        void callSlots(CoilWorks c, int which, String call) {
            switch (which) {
                case 14: {
                    if (any(0, 3) > 0) break;
                    int n = arg(6, 24);
                    due(call + ": slots", c.slots(n), in(n, 6, 24) ? 1 : BAD);
                    if (!in(n, 6, 24)) break;
                    s = n;
                    slot = new int[24][2];
                    break;
                }
                case 15:
                case 16:
                case 17: {
                    int n = arg(0, any(0, 1) == 0 ? s - 1 : 23);
                    int phase = arg(0, 2);
                    int sign = arg(-1, 1);
                    boolean ok = in(n, 0, s - 1) && in(phase, 0, 2) && in(sign, -1, 1);
                    due(call + ": side", c.side(n, phase, sign), ok ? 1 : BAD);
                    if (ok) slot[n] = new int[] {phase, sign};
                    break;
                }
                case 18: {
                    // As many belts as are even, so that not all stars are odd ones.
                    if (s % 3 != 0) break;
                    int k = any(1, 5);
                    for (int n = 0; n < s / 3; n++) {
                        int sign = any(-1, 1);
                        for (int phase = 0; phase < 3; phase++) {
                            int at = (n + phase * (s / 3)) % s;
                            int which3 = (phase * k) % 3;
                            due(call + ": side", c.side(at, which3, sign), 1);
                            slot[at] = new int[] {which3, sign};
                        }
                    }
                    break;
                }
                case 19: {
                    int[] shortest = shortest(s);
                    due(call + ": wide", c.wide(), shortest.length - 1);
                    int phase = arg(0, 2);
                    int k = arg(0, 24);
                    int n = arg(0, shortest.length - 2);
                    boolean ok = in(phase, 0, 2) && in(k, 0, 24) && in(n, 0, shortest.length - 2);
                    due(call + ": star", c.star(phase, k, n), ok ? star(phase, k)[n] : -1000);
                    break;
                }
                case 20: {
                    int k = arg(0, 24);
                    boolean even = s % 3 == 0 && far(0, 1, k, s / 3) < 1e-7 && far(1, 2, k, s / 3) < 1e-7;
                    due(call + ": even", c.even(k), !in(k, 0, 24) ? BAD : even ? 1 : 0);
                    break;
                }
                default: {
                    int k = arg(0, 24);
                    int n = any(0, 5) == 0 ? arg(0, 23) : any(0, 2);
                    due(call + ": span", c.span(k, n), !in(k, 0, 24) || n < 0 ? BAD : span(k, n));
                }
            }
        }

        /** What z's shortest equation has: z^n - 1 without the equations of all smaller parts. */
        static int[] shortest(int n) {
            int[] left = new int[n + 1];
            left[n] = 1;
            left[0] = -1;
            for (int d = 1; d < n; d++) {
                if (n % d == 0) left = divided(left, shortest(d), true);
            }
            return left;
        }

        static int[] divided(int[] a, int[] b, boolean quotient) {
            int[] rest = a.clone();
            int m = b.length - 1;
            int[] q = new int[Math.max(1, a.length - m)];
            for (int e = a.length - 1; e >= m; e--) {
                q[e - m] = rest[e];
                for (int j = m; j >= 0; j--) rest[e - m + j] -= q[e - m] * b[j];
            }
            return quotient ? q : Arrays.copyOf(rest, m);
        }

        int[] star(int phase, int k) {
            int[] sum = new int[s];
            for (int n = 0; n < s; n++) {
                if (slot[n][0] == phase) sum[k * n % s] += slot[n][1];
            }
            return divided(sum, shortest(s), false);
        }

        double[] far(int phase, int k, int shift) {
            double[] sum = new double[2];
            for (int n = 0; n < s; n++) {
                if (slot[n][0] != phase) continue;
                double angle = 2 * Math.PI * k * (n + shift) / s;
                sum[0] += slot[n][1] * Math.cos(angle);
                sum[1] += slot[n][1] * Math.sin(angle);
            }
            return sum;
        }

        double far(int one, int other, int k, int shift) {
            double[] a = far(one, k, shift);
            double[] b = far(other, k, 0);
            return Math.abs(a[0] - b[0]) + Math.abs(a[1] - b[1]);
        }

        int span(int k, int n) {
            int many = 0;
            for (int span = 1; span < s; span++) {
                if (far(0, 0, k, span) > 1e-7) continue;
                if (many++ == n) return span;
            }
            return -1;
        }

        void callWarm(CoilWorks c, int which, String call) {
            switch (which) {
                case 22: {
                    int a = arg(0, any(0, 1) == 0 ? 20 : 10000);
                    int b = arg(0, any(0, 1) == 0 ? 10 : 1000);
                    int d = arg(1, any(0, 1) == 0 ? 300 : 100000);
                    boolean ok = in(a, 0, 10000) && in(b, 0, 1000) && in(d, 1, 100000);
                    due(call + ": feed", c.feed(a, b, d), ok ? 1 : BAD);
                    if (!ok) break;
                    v = a;
                    r = b;
                    l = d;
                    break;
                }
                case 23: {
                    int a = arg(0, any(0, 1) == 0 ? 1000 : 1000000);
                    int b = any(0, 3) == 0 ? arg(0, 1000000) : a - any(0, 5);
                    boolean ok = in(a, 0, 1000000) && in(b, 0, a);
                    due(call + ": limits", c.limits(a, b), ok ? 1 : BAD);
                    if (!ok) break;
                    high = a;
                    low = b;
                    break;
                }
                case 24:
                case 25: {
                    int n = arg(1, any(0, 1) == 0 ? 9 : 1000);
                    boolean ok = in(n, 1, 1000);
                    for (int t = 0; t < n && ok; t++) tickDrive();
                    due(call + ": run", c.run(n), ok ? i : BAD);
                    break;
                }
                case 26: {
                    int what = arg(0, 3);
                    long[] all = {i, on ? 1 : 0, switches, ticks};
                    due(call + ": ran", c.ran(what), in(what, 0, 3) ? all[what] : BAD);
                    break;
                }
                case 27: {
                    int b = arg(0, 3);
                    int a = arg(1, any(0, 1) == 0 ? 30 : 1000);
                    int h = arg(0, any(0, 1) == 0 ? 3000 : 100000);
                    int o = arg(0, any(0, 1) == 0 ? 1 : 100);
                    boolean ok = in(b, 0, 3) && in(a, 1, 1000) && in(h, 0, 100000) && in(o, 0, 100);
                    due(call + ": body", c.body(b, a, h, o), ok ? 1 : BAD);
                    if (!ok) break;
                    room[b] = a;
                    heat[b] = h;
                    out[b] = o;
                    break;
                }
                case 28: {
                    int a = arg(0, 3);
                    int b = arg(0, 3);
                    int n = arg(0, 100);
                    boolean ok = in(a, 0, 3) && in(b, 0, 3) && a != b && in(n, 0, 100);
                    due(call + ": joint", c.joint(a, b, n), ok ? 1 : BAD);
                    if (ok) joint[a][b] = joint[b][a] = n;
                    break;
                }
                case 29:
                case 30: {
                    int n = arg(1, any(0, 1) == 0 ? 9 : 1000);
                    boolean ok = in(n, 1, 1000);
                    for (int t = 0; t < n && ok; t++) tickBodies();
                    due(call + ": warm", c.warm(n), ok ? warmth[0] : BAD);
                    break;
                }
                case 31: {
                    int b = arg(0, 3);
                    due(call + ": warmth", c.warmth(b), in(b, 0, 3) ? warmth[b] : BAD);
                    break;
                }
                default: {
                    int b = arg(0, 3);
                    int bound = any(0, 3) == 0 ? arg(0, 1000000000) : any(0, 3000);
                    boolean ok = in(b, 0, 3) && in(bound, 0, 1000000000);
                    due(call + ": first", c.first(b, bound), ok ? first(b, bound) : BAD);
                }
            }
            int what = arg(0, 5);
            due(call + ": count", c.count(what), count(what));
        }

        void tickDrive() {
            if (on && i >= high) {
                on = false;
                switches++;
            } else if (!on && i <= low) {
                on = true;
                switches++;
            }
            long push = (on ? 1000L * v : 0L) - (long) r * i;
            i = i + push / l;
            if (i < 0) i = 0;
            ticks++;
        }

        void tickBodies() {
            long[] was = warmth.clone();
            for (int b = 0; b < 4; b++) {
                long sum = heat[b] - (long) out[b] * was[b];
                for (int o = 0; o < 4; o++) {
                    if (o != b) sum += (long) joint[b][o] * (was[o] - was[b]);
                }
                warmth[b] = Math.max(0L, Math.min(1000000000L, was[b] + sum / room[b]));
            }
        }

        int first(int b, int bound) {
            Mirror later = copy();
            for (int t = 1; t <= 1000; t++) {
                later.tickBodies();
                if (later.warmth[b] > bound) return t;
            }
            return -1;
        }
    }
}
