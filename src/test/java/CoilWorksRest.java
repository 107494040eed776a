import java.math.BigInteger;

/**
 * Promises 8 and 12 to 27 on many made-up machines. The rest is not found again here: what the program answers
 * is put into the document's own rules, which just one rest meets.
 */
public final class CoilWorksRest {
    private static final int MACHINES = 4000;
    private static int wrong = 0;
    private static long seed = 20261118L;

    public static void main(String[] args) {
        for (int i = 0; i < MACHINES; i++) {
            Made made = new Made(i % 4 == 3);
            made.checkRest();
            made.anew();
            made.checkLinks();
            made.checkStores();
            if (i % 4 != 2) continue;
            made.anew();
            made.checkStill();
            made.anew();
            made.checkFits();
            made.anew();
            made.checkGrade();
        }
        System.out.println(wrong == 0 ? "rest: " + MACHINES + " machines are as due" : "rest: " + wrong + " answers are not as due");
        if (wrong != 0) System.exit(1);
    }

    private static int any(int least, int most) {
        seed = seed * 6364136223846793005L + 1442695040888963407L;
        return least + (int) Long.remainderUnsigned(seed >>> 20, most - least + 1L);
    }

    private static void due(String what, Object got, Object want) {
        if (got.equals(want)) return;
        wrong++;
        if (wrong < 40) System.out.println(what + " answered " + got + ", due is " + want);
    }

    /** A fraction in lowest terms. */
    private static final class Frac {
        static final Frac ZERO = new Frac(BigInteger.ZERO, BigInteger.ONE);
        final BigInteger n;
        final BigInteger d;

        Frac(BigInteger n, BigInteger d) {
            BigInteger g = n.gcd(d).max(BigInteger.ONE);
            this.n = n.divide(g);
            this.d = d.divide(g);
        }

        static Frac of(long v) {
            return new Frac(BigInteger.valueOf(v), BigInteger.ONE);
        }

        Frac plus(Frac o) {
            return new Frac(n.multiply(o.d).add(o.n.multiply(d)), d.multiply(o.d));
        }

        Frac less(Frac o) {
            return plus(o.times(-1));
        }

        Frac times(long v) {
            return new Frac(n.multiply(BigInteger.valueOf(v)), d);
        }

        Frac times(Frac o) {
            return new Frac(n.multiply(o.n), d.multiply(o.d));
        }

        Frac half() {
            return new Frac(n, d.add(d));
        }

        Frac abs() {
            return new Frac(n.abs(), d);
        }

        Frac min(long v) {
            return less(of(v)).n.signum() < 0 ? this : of(v);
        }

        BigInteger floor() {
            BigInteger[] parts = n.divideAndRemainder(d);
            return parts[1].signum() < 0 ? parts[0].subtract(BigInteger.ONE) : parts[0];
        }

        @Override
        public boolean equals(Object o) {
            return o instanceof Frac f && f.n.equals(n) && f.d.equals(d);
        }

        @Override
        public int hashCode() {
            return n.hashCode();
        }

        @Override
        public String toString() {
            return n + "/" + d;
        }
    }

    /** THE FRACTION, by its limbs. */
    private static Frac told(CoilWorks c, String what, int sign) {
        BigInteger above = half(c, 0);
        BigInteger below = half(c, 1);
        due(what + " shares nothing with what is below", above.gcd(below), BigInteger.ONE);
        if (sign < 0) above = above.negate();
        due(what + " sign", sign, above.signum());
        Frac f = new Frac(above, below);
        BigInteger far = BigInteger.valueOf(1000000000000L);
        due(what + " floor", c.floor(), f.floor().min(far).max(far.negate()).longValue());
        return f;
    }

    private static BigInteger half(CoilWorks c, int part) {
        BigInteger sum = BigInteger.ZERO;
        for (int i = c.limbs(part) - 1; i >= 0; i--) {
            sum = sum.shiftLeft(30).add(BigInteger.valueOf(c.limb(part, i)));
        }
        int limbs = c.limbs(part);
        if (limbs > 0) due("the highest limb is not 0", c.limb(part, limbs - 1) > 0, true);
        due("no limb more", c.limb(part, limbs), CoilWorks.NONE);
        return sum;
    }

    /** A made-up machine, with its path as a tree. */
    private static final class Made {
        CoilWorks c;
        final int pieces = any(1, 7);
        final int[][] iron = new int[pieces][];
        final int[][] gap = new int[pieces][24];
        final int[] magnet = new int[pieces];
        final int[][] turns = new int[4][pieces];
        final int[] current = new int[4];
        final int turn = any(0, 23);
        final String path;
        final boolean[] used = new boolean[pieces];
        Frac[] flow;
        Frac[] x;
        int at;

        Made(boolean great) {
            for (int p = 0; p < pieces; p++) {
                makePiece(p, great);
                magnet[p] = any(0, 2) == 0 ? 0 : great ? (any(0, 1) * 2 - 1) * any(4000, 5000) : any(-300, 300);
                for (int w = 0; w < 4; w++) turns[w][p] = any(0, 2) == 0 ? any(great ? 40 : -50, 50) : 0;
            }
            for (int w = 0; w < 4; w++) current[w] = great ? any(90, 99) : any(0, 3) == 0 ? 0 : any(-40, 40);
            int[] order = new int[pieces];
            for (int p = 0; p < pieces; p++) order[p] = p;
            for (int p = pieces - 1; p > 0; p--) {
                int o = any(0, p);
                int t = order[p];
                order[p] = order[o];
                order[o] = t;
            }
            int many = any(0, 3) == 0 ? any(1, pieces) : pieces;
            for (int i = 0; i < many; i++) used[order[i]] = true;
            path = grow(order, 0, many, 0, 2);
            c = build(iron);
        }

        void makePiece(int p, boolean great) {
            for (int t = 0; t < 24; t++) gap[p][t] = great ? any(180, 200) : any(0, 2) == 0 ? any(1, 200) : 10;
            if (any(0, 9) < 4) return;
            int s1 = great ? any(150, 200) : any(3, 200);
            int s2 = great ? any(100, s1) : any(1, s1);
            int s3 = any(1, s2);
            int x1 = great ? any(1, 9000) : any(1, 80);
            iron[p] = new int[] {s1, x1, s2, x1 + any(1, great ? 999 : 90), s3};
        }

        /** A path of the pieces from .. to of the order; kinds: 0 an end, 1 a road, 2 a path. */
        String grow(int[] order, int from, int to, int depth, int kind) {
            String blank = depth < 2 && any(0, 3) == 0 ? " " : "";
            if (to - from == 1) {
                String letter = String.valueOf((char) ('a' + order[from]));
                return blank + (depth < 3 && any(0, 9) == 0 ? "(" + letter + ")" : letter);
            }
            if (kind == 0) return "(" + grow(order, from, to, depth + 1, 2) + ")";
            // Deep down each cut takes one piece off, as no more than 8 ( may be open.
            int cut = depth < 7 ? any(from, to - 1) : from + 1;
            if (cut == from) return grow(order, from, to, depth, kind - 1);
            String sign = kind == 1 ? "-" : "|";
            return grow(order, from, cut, depth, kind - 1) + blank + sign + grow(order, cut, to, depth, kind);
        }

        /** An object is used for at most 512 calls: another one alike. */
        void anew() {
            c = build(iron);
        }

        CoilWorks build(int[][] irons) {
            CoilWorks made = new CoilWorks();
            for (int p = 0; p < pieces; p++) {
                int[] s = irons[p];
                due("number of a piece", s == null ? made.gap() : made.iron(s[0], s[1], s[2], s[3], s[4]), p);
                for (int t = 0; t < 24 && s == null; t++) due("gapAt", made.gapAt(p, t, gap[p][t]), 10);
                due("magnet", made.magnet(p, magnet[p]), 1);
                for (int w = 0; w < 4; w++) due("turns", made.turns(w, p, turns[w][p]), 1);
            }
            for (int w = 0; w < 4; w++) due("current", made.current(w, current[w]), 1);
            made.turn(turn);
            for (int i = 0; i < path.length(); i++) due("write", made.write(path.charAt(i)), i + 1);
            due("fault of " + path, made.fault(), CoilWorks.NONE);
            return made;
        }

        long source(int p) {
            long sum = magnet[p];
            for (int w = 0; w < 4; w++) sum += turns[w][p] * current[w];
            return sum;
        }

        Frac carried(int p, Frac push, int atTurn) {
            int[] s = iron[p];
            if (s == null) return push.times(gap[p][atTurn]);
            Frac size = push.abs();
            Frac sum = size.min(s[1]).times(s[0] - s[2]).plus(size.min(s[3]).times(s[2] - s[4])).plus(size.times(s[4]));
            return push.n.signum() < 0 ? sum.times(-1) : sum;
        }

        /** The area under it: of each part of the line a rectangle and a triangle. */
        Frac area(int p, Frac push, int atTurn) {
            int[] s = iron[p];
            if (s == null) return push.times(push).times(gap[p][atTurn]).half();
            long[] ends = {0, s[1], s[3], Long.MAX_VALUE / 4};
            Frac sum = Frac.ZERO;
            for (int i = 0; i < 3; i++) {
                Frac end = push.abs().min(ends[i + 1]);
                Frac wide = end.less(Frac.of(ends[i]));
                if (wide.n.signum() <= 0) continue;
                Frac low = carried(p, Frac.of(ends[i]), atTurn);
                sum = sum.plus(wide.times(low)).plus(wide.times(wide).times(s[2 * i]).half());
            }
            return sum;
        }

        String name() {
            return "path '" + path + "' of " + pieces + " pieces: ";
        }

        void checkRest() {
            flow = new Frac[pieces];
            x = new Frac[pieces];
            for (int p = 0; p < pieces; p++) {
                due(name() + "source", (long) c.source(p), source(p));
                flow[p] = told(c, name() + "flow " + p, c.flow(p));
                x[p] = told(c, name() + "over " + p, c.over(p));
                if (!used[p]) due(name() + "left out", x[p], Frac.ZERO);
                due(name() + "flow of its push " + p, flow[p], carried(p, x[p], turn));
                int part = 0;
                if (iron[p] != null) {
                    if (x[p].abs().less(Frac.of(iron[p][1])).n.signum() > 0) part++;
                    if (x[p].abs().less(Frac.of(iron[p][3])).n.signum() > 0) part++;
                }
                due(name() + "part " + p, c.part(p), part);
            }
            at = 0;
            Frac[] whole = readPath();
            due(name() + "read to its end", at, path.length());
            due(name() + "the drop of the whole", whole[1], Frac.ZERO);
        }

        // Each gives flow and drop, and tells where the parts are at odds.
        Frac[] readPath() {
            Frac[] sum = readRoad();
            while (at < path.length() && path.charAt(at) == '|') {
                at++;
                Frac[] more = readRoad();
                due(name() + "drops side by side", more[1], sum[1]);
                sum = new Frac[] {sum[0].plus(more[0]), sum[1]};
            }
            return sum;
        }

        Frac[] readRoad() {
            Frac[] sum = readEnd();
            while (at < path.length() && path.charAt(at) == '-') {
                at++;
                Frac[] more = readEnd();
                due(name() + "flows behind one another", more[0], sum[0]);
                sum = new Frac[] {sum[0], sum[1].plus(more[1])};
            }
            return sum;
        }

        Frac[] readEnd() {
            skip();
            char sign = path.charAt(at++);
            Frac[] found;
            if (sign == '(') {
                found = readPath();
                at++;
            } else {
                int p = sign - 'a';
                found = new Frac[] {flow[p], x[p].less(Frac.of(source(p)))};
            }
            skip();
            return found;
        }

        void skip() {
            while (at < path.length() && path.charAt(at) == ' ') at++;
        }

        Frac linked(int w) {
            Frac sum = Frac.ZERO;
            for (int p = 0; p < pieces; p++) sum = sum.plus(flow[p].times(turns[w][p]));
            return sum;
        }

        void checkLinks() {
            Frac[] were = new Frac[4];
            for (int w = 0; w < 4; w++) {
                were[w] = linked(w);
                due(name() + "linked " + w, told(c, name() + "linked", c.linked(w)), were[w]);
            }
            int second = any(0, 3);
            int first = any(0, 3);
            Frac more = told(c, name() + "each", c.each(first, second));
            c.current(second, current[second] + 1);
            due(name() + "each", told(c, name() + "linked", c.linked(first)).less(were[first]), more);
            c.current(second, current[second]);
        }

        void checkStores() {
            Frac sum = Frac.ZERO;
            for (int p = 0; p < pieces; p++) sum = sum.plus(area(p, x[p], turn));
            due(name() + "stored", told(c, name() + "stored", c.stored()), sum);
            c.turn((turn + 1) % 24);
            Frac next = told(c, name() + "stored", c.stored());
            c.turn(turn);
            due(name() + "push", told(c, name() + "push", c.push(turn)), next.less(sum));
        }

        void checkStill() {
            int[] push = new int[24];
            for (int t = 0; t < 24; t++) push[t] = c.push(t);
            int still = 0;
            int stays = 0;
            for (int t = 0; t < 24; t++) {
                int ahead = push[(t + 23) % 24];
                if (push[t] <= 0 && ahead >= 0) still |= 1 << t;
                if (push[t] < 0 && ahead > 0) stays |= 1 << t;
            }
            long was = c.floor();
            due(name() + "still", c.still(0), still);
            due(name() + "stays", c.still(1), stays);
            due(name() + "the fraction stays", c.floor(), was);
        }

        long flowAt(CoilWorks of, int atTurn, int p) {
            int was = of.turn(atTurn);
            of.flow(p);
            of.turn(was);
            return of.floor();
        }

        boolean fitsNow(CoilWorks of, int[][] rows, long[] flows) {
            for (int i = 0; i < flows.length; i++) {
                if (flowAt(of, rows[i][0], rows[i][1]) != flows[i]) return false;
            }
            return true;
        }

        /** What is seen is made with one of the faults, so that some fault fits. */
        void checkFits() {
            int fault = any(0, 8 + pieces);
            CoilWorks wrong = withFault(fault);
            int[][] rows = new int[any(0, 3)][];
            long[] flows = new long[rows.length];
            for (int i = 0; i < rows.length; i++) {
                rows[i] = new int[] {any(0, 23), any(0, pieces - 1)};
                flows[i] = flowAt(wrong, rows[i][0], rows[i][1]);
            }
            for (int i = 0; i < rows.length; i++) due("see", c.see(rows[i][0], rows[i][1], flows[i]), i + 1);
            int bits = 0;
            for (int f = 0; f < 9 + pieces; f++) {
                if (fitsNow(withFault(f), rows, flows)) bits |= 1 << f;
            }
            due(name() + "the made fault is one", bits >> fault & 1, 1);
            long was = c.digest();
            due(name() + "fits", c.fits(), bits);
            due(name() + "fits changes nothing", c.digest(), was);
        }

        CoilWorks withFault(int f) {
            CoilWorks other = build(iron);
            for (int w = 0; w < 4; w++) {
                if (f == 1 + w) other.current(w, 0);
                if (f == 5 + w) other.current(w, current[w] / 2);
            }
            for (int p = 0; p < pieces; p++) {
                if (f == 9 + p) other.magnet(p, 0);
            }
            return other;
        }

        void checkGrade() {
            int p = any(0, pieces - 1);
            if (iron[p] == null) {
                due(name() + "grade of a gap", c.grade(p, 1, 2, 0), CoilWorks.BAD);
                return;
            }
            int from = any(1, 190);
            int to = Math.min(200, from + any(0, 29));
            int[][] others = iron.clone();
            int[] s = iron[p];
            int made = Math.max(s[2], any(from, to));
            others[p] = new int[] {made, s[1], s[2], s[3], s[4]};
            CoilWorks other = build(others);
            int[][] rows = {{any(0, 23), any(0, pieces - 1)}, {any(0, 23), p}};
            long[] flows = {flowAt(other, rows[0][0], rows[0][1]), flowAt(other, rows[1][0], rows[1][1])};
            for (int i = 0; i < 2; i++) c.see(rows[i][0], rows[i][1], flows[i]);
            int many = 0;
            int least = CoilWorks.NONE;
            for (int g = from; g <= to; g++) {
                if (g < s[2]) continue;
                others[p] = new int[] {g, s[1], s[2], s[3], s[4]};
                if (!fitsNow(build(others), rows, flows)) continue;
                if (many == 0) least = g;
                many++;
            }
            long was = c.digest();
            due(name() + "grade, how many", c.grade(p, from, to, 0), many);
            due(name() + "grade, the least", c.grade(p, from, to, 1), least);
            due(name() + "grade changes nothing", c.digest(), was);
        }
    }
}
