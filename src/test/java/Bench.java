import java.math.BigInteger;
import java.util.ArrayList;
import java.util.List;
import java.util.function.Supplier;
import java.util.function.ToLongFunction;

/**
 * What the tests of the bounds share: due answers beside a promise's sentence, stands to start from, and refused
 * calls, which have to change nothing: all that an object tells later on is as without the call.
 */
abstract class Bench {
    // As the document tells them, so that the class's own constants are held beside them too.
    static final int NONE = -1, BAD = -2, NO = -3, FULL = -4;
    static final int BAD_FRACTION = -10, NO_FRACTION = -20, BAD_SOURCE = -1000000, BAD_STAR = -1000;
    static final int LOWEST = Integer.MIN_VALUE, HIGHEST = Integer.MAX_VALUE;
    private static final int MOST_SHOWN = 30;

    /** A call with one number that is tried. */
    interface Call {
        long of(CoilWorks x, int v);
    }

    private static final List<Stand> STANDS = new ArrayList<>();
    static final Stand NEW = new Stand("a new object", CoilWorks::new);
    static final Stand SMALL = new Stand("a small machine", Bench::small);
    static final Stand FULLY = new Stand("a full machine", Bench::full);
    static final Stand FAULTY = new Stand("a full machine with a fault", Bench::faulty);

    private static String beside = "";
    private static int sentences = 0;
    private static int wrong = 0;

    /** The promise, and its words, that the next dues are for. */
    static void sentence(int promise, String words) {
        beside = "promise " + promise + ", '" + words + "': ";
        sentences++;
    }

    static void due(String call, long got, long want) {
        if (got == want) return;
        wrong++;
        if (wrong <= MOST_SHOWN) System.out.println(beside + call + " answered " + got + ", due is " + want);
    }

    static void end(String name) {
        System.out.println(name + ": " + sentences + " sentences, " + wrong + " answers are not as due");
        if (wrong != 0) System.exit(1);
    }

    // ---- THE FRACTION

    static void dueFraction(String call, CoilWorks x, int answer, long above, long below) {
        dueFraction(call, x, answer, BigInteger.valueOf(above), BigInteger.valueOf(below));
    }

    /** The call's answer is the sign, and THE FRACTION is above by below in lowest terms. */
    static void dueFraction(String call, CoilWorks x, int answer, BigInteger above, BigInteger below) {
        due(call, answer, above.signum());
        BigInteger shared = above.gcd(below);
        dueLimbs(call + ": above", x, 0, above.divide(shared).abs());
        dueLimbs(call + ": below", x, 1, below.divide(shared));
        BigInteger[] cut = above.divideAndRemainder(below);
        due(call + ": cut down", x.floor(), cut[0].longValueExact() - (cut[1].signum() < 0 ? 1 : 0));
    }

    private static void dueLimbs(String what, CoilWorks x, int part, BigInteger number) {
        int many = (number.bitLength() + 29) / 30;
        due(what + ", limbs", x.limbs(part), many);
        BigInteger left = number;
        for (int i = 0; i < many; i++) {
            due(what + ", limb " + i, x.limb(part, i), left.longValue() & (1 << 30) - 1);
            left = left.shiftRight(30);
        }
        due(what + ", one limb more", x.limb(part, many), NONE);
    }

    // ---- refused calls

    static void everywhere(String call, ToLongFunction<CoilWorks> it, long want) {
        for (Stand stand : STANDS) stand.refuses(call, it, want);
    }

    /** One step beyond the bounds on both sides, and as far as a number goes. */
    static void beyond(String call, int least, int most, Call it, long want) {
        int[] numbers = {least - 1, most + 1, LOWEST, HIGHEST};
        for (int v : numbers) everywhere(call + " with v = " + v, x -> it.of(x, v), want);
    }

    /** A piece that is not there: beyond 0 .. 6, and one behind those that are there. */
    static void beyondPieces(String call, Call it, long want) {
        beyond(call, 0, 6, it, want);
        NEW.refuses(call + " of piece 0", x -> it.of(x, 0), want);
        SMALL.refuses(call + " of piece 3", x -> it.of(x, 3), want);
        SMALL.refuses(call + " of piece 6", x -> it.of(x, 6), want);
    }

    /** What to start from: the same at each making. */
    static final class Stand {
        private final String name;
        private final Supplier<CoilWorks> maker;
        private long[] untouched;

        Stand(String name, Supplier<CoilWorks> maker) {
            this.name = name;
            this.maker = maker;
            STANDS.add(this);
        }

        CoilWorks make() {
            return maker.get();
        }

        void refuses(String call, ToLongFunction<CoilWorks> it, long want) {
            CoilWorks x = make();
            String on = " on " + name;
            due(call + on, it.applyAsLong(x), want);
            dueUntouched("it changes nothing: " + call + on, x);
        }

        /** All that the object tells, now and later on, is as if it came just from its making. */
        void dueUntouched(String what, CoilWorks x) {
            if (untouched == null) untouched = probe(make());
            long[] told = probe(x);
            for (int i = 0; i < told.length; i++) due(what + ", telling " + i, told[i], untouched[i]);
        }
    }

    // ---- stands; each is made by far fewer calls than an object may be used for

    static void write(CoilWorks x, String path) {
        x.erase();
        for (int i = 0; i < path.length(); i++) x.write(path.charAt(i));
    }

    /** Iron a, gap b, iron c on a path; room for more of all. */
    private static CoilWorks small() {
        CoilWorks x = new CoilWorks();
        x.iron(10, 100, 2, 200, 1);
        x.gap();
        x.iron(20, 50, 10, 60, 10);
        x.gapAt(1, 3, 17);
        write(x, "a-(b|c)");
        x.turns(0, 0, 10);
        x.turns(2, 2, -3);
        x.current(0, 30);
        x.magnet(1, 40);
        x.turn(2);
        x.see(2, 1, 250);
        x.see(3, 0, 1);
        x.image(0);
        x.current(2, 9);
        x.slots(9);
        x.side(0, 0, 1);
        x.side(3, 1, 1);
        x.side(6, 2, 1);
        tellTimes(x, 7, 500);
        x.flow(0);
        return x;
    }

    /** No room for more: 7 pieces, 40 characters, 6 seen, all slots with sides, both images. */
    private static CoilWorks full() {
        CoilWorks x = filled();
        write(x, "a-(b|c)-(d|(e-f)|g)                     ");
        x.stored();
        return x;
    }

    private static CoilWorks faulty() {
        CoilWorks x = full();
        write(x, "a-(b|c)-(d|(e-f)|g)                    -");
        return x;
    }

    private static CoilWorks filled() {
        CoilWorks x = new CoilWorks();
        x.iron(10, 100, 2, 200, 1);
        x.gap();
        x.iron(20, 50, 10, 60, 10);
        x.gap();
        x.iron(200, 7, 150, 9, 3);
        x.gap();
        x.iron(9, 900, 8, 901, 8);
        for (int t = 0; t < 24; t++) x.gapAt(3, t, 10 + 7 * t % 24);
        x.image(0);
        for (int p = 0; p < 7; p++) {
            x.magnet(p, 11 * p - 25);
            for (int w = 0; w < 4; w++) x.turns(w, p, 3 * p - 5 * w);
        }
        for (int w = 0; w < 4; w++) x.current(w, 13 - 9 * w);
        for (int i = 0; i < 6; i++) x.see(3 * i, i, 100 * i - 300);
        x.turn(23);
        tellTimes(x, 3, 700);
        x.image(1);
        x.slots(24);
        for (int s = 0; s < 24; s++) x.side(s, s % 3, s % 2 == 0 ? 1 : -1);
        tellTimes(x, 5, 300);
        return x;
    }

    private static void tellTimes(CoilWorks x, int v, int heat) {
        x.feed(v, 3, 70);
        x.limits(900, 800);
        x.run(17);
        x.body(0, 12, heat, 2);
        x.body(1, 5, 20, 1);
        x.joint(0, 1, 2);
        x.joint(1, 3, 1);
        x.warm(9);
    }

    // ---- all that an object tells

    private static long[] probe(CoilWorks x) {
        List<Long> told = new ArrayList<>();
        tellFraction(x, told);
        tellMachine(x, told);
        tellSlots(x, told);
        tellTimes(x, told);
        for (int i = 0; i < 2; i++) {
            told.add((long) x.from(i));
            tellFraction(x, told);
            tellMachine(x, told);
            tellTimes(x, told);
        }
        tellRoom(x, told);
        long[] row = new long[told.size()];
        for (int i = 0; i < row.length; i++) row[i] = told.get(i);
        return row;
    }

    private static void tellFraction(CoilWorks x, List<Long> told) {
        for (int part = 0; part < 2; part++) {
            int many = x.limbs(part);
            long sum = many;
            for (int i = 0; i < many; i++) sum = sum * 1000003 + x.limb(part, i);
            told.add(sum);
        }
        told.add(x.floor());
    }

    private static void tellMachine(CoilWorks x, List<Long> told) {
        told.add(x.digest());
        for (int i = 0; i < 6; i++) told.add((long) x.count(i));
        told.add((long) x.fault());
        told.add((long) x.fits());
        told.add((long) x.grade(0, 1, 30, 0));
        told.add((long) x.source(2));
    }

    private static void tellSlots(CoilWorks x, List<Long> told) {
        for (int i = 0; i < 4; i++) told.add((long) x.star(i % 3, 1 + i, i));
        told.add((long) x.even(1));
        told.add((long) x.span(2, 0));
    }

    private static void tellTimes(CoilWorks x, List<Long> told) {
        for (int n = 1; n < 30; n += 7) {
            told.add((long) x.run(n));
            told.add((long) x.ran(2));
            told.add((long) x.warm(n));
            told.add((long) x.warmth(3));
        }
        told.add(x.digest());
    }

    /** What has still room, and that what was emptied is empty. */
    private static void tellRoom(CoilWorks x, List<Long> told) {
        told.add((long) x.gap());
        told.add((long) x.write('a'));
        told.add((long) x.see(0, 0, 0));
        told.add((long) x.flow(0));
        tellFraction(x, told);
        told.add((long) x.erase());
        told.add((long) x.forget());
        told.add(x.digest());
    }
}
