/** Promises 28 to 33: each sentence that names a bound, at the bound and one step beyond it. */
public final class CoilWorksBoundsOfSlots extends Bench {
    private static final double NEAR = 1e-7;

    public static void main(String[] args) {
        slots();
        sides();
        sidesTakenAway();
        wide();
        refusedStars();
        stars();
        allStars();
        refusedEvens();
        even();
        evenByThrees();
        refusedSpans();
        spans();
        spansBeyondTheLast();
        noughtByItself();
        end("bounds of the slots");
    }

    private static CoilWorks slots(int s) {
        CoilWorks x = new CoilWorks();
        due("slots(" + s + ")", x.slots(s), 1);
        return x;
    }

    // ---- promises 28 to 30

    private static void slots() {
        sentence(28, "SLOTS: S of them (6 .. 24; 12 at first)");
        beyond("slots(v)", 6, 24, (x, v) -> x.slots(v), BAD);
        due("at first", new CoilWorks().count(4), 12);
        sentence(28, "S SLOTS, all without coil sides: 1. BAD");
        CoilWorks x = new CoilWorks();
        int[] order = {24, 6, 7, 23, 24, 12, 6, 6, 24};
        for (int s : order) {
            due("slots(" + s + ")", x.slots(s), 1);
            due("count(4)", x.count(4), s);
            due("count(5)", x.count(5), 0);
            for (int i = 0; i < s; i++) x.side(i, i % 3, 1);
            due("with sides", x.count(5), s);
            due("refused", x.slots(25), BAD);
            due("refused", x.slots(5), BAD);
            due("as many as they were", x.count(4), s);
            due("with the sides that were", x.count(5), s);
        }
        due("slots alike", x.slots(24), 1);
        due("without sides", x.count(5), 0);
        for (int phase = 0; phase < 3; phase++) due("star", x.star(phase, 0, 0), 0);
    }

    private static void sides() {
        sentence(29, "SLOTS: S of them");
        for (int s : new int[] {6, 7, 23, 24}) {
            CoilWorks x = slots(s);
            due("the first", x.side(0, 0, 1), 1);
            due("the last", x.side(s - 1, 2, -1), 1);
            due("behind the last", x.side(s, 0, 1), BAD);
            due("ahead of the first", x.side(-1, 0, 1), BAD);
            due("two", x.count(5), 2);
        }
        due("the last of 12 at first", new CoilWorks().side(11, 0, 1), 1);
        NEW.refuses("side 12 of 12", x -> x.side(12, 0, 1), BAD);
        SMALL.refuses("side 9 of 9", x -> x.side(9, 0, 1), BAD);
        SMALL.refuses("side 23 of 9", x -> x.side(23, 0, 1), BAD);
        beyond("side(v, 0, 1)", 0, 23, (x, v) -> x.side(v, 0, 1), BAD);
        sentence(29, "Each has a coil side of a phase (0 .. 2), with a sign (1, -1), or none (at first)");
        beyond("side(0, v, 1)", 0, 2, (x, v) -> x.side(0, v, 1), BAD);
        beyond("side(0, v, 0)", 0, 2, (x, v) -> x.side(0, v, 0), BAD);
        beyond("side(0, 0, v)", -1, 1, (x, v) -> x.side(0, 0, v), BAD);
        beyond("side(3, 1, v)", -1, 1, (x, v) -> x.side(3, 1, v), BAD);
        for (int phase = 0; phase < 3; phase++) {
            for (int sign = -1; sign <= 1; sign += 2) {
                CoilWorks x = slots(6);
                due("side", x.side(5, phase, sign), 1);
                for (int other = 0; other < 3; other++) due("star", x.star(other, 0, 0), other == phase ? sign : 0);
            }
        }
    }

    private static void sidesTakenAway() {
        sentence(29, "A coil side of a phase (sign 0: none): 1");
        CoilWorks x = slots(6);
        long empty = x.digest();
        for (int phase = 0; phase < 3; phase++) {
            due("none where none is", x.side(2, phase, 0), 1);
            due("as it was", x.digest(), empty);
            due("told", x.side(2, phase, 1), 1);
            due("one", x.count(5), 1);
            due("told again, the other way", x.side(2, phase, -1), 1);
            due("one", x.count(5), 1);
            due("its star", x.star(phase, 0, 0), -1);
            due("of the next phase", x.side(2, (phase + 1) % 3, 1), 1);
            due("one", x.count(5), 1);
            due("the star of the phase that it was", x.star(phase, 0, 0), 0);
            due("taken away by a third phase", x.side(2, (phase + 2) % 3, 0), 1);
            due("none", x.count(5), 0);
            due("as it was", x.digest(), empty);
        }
        for (int i = 0; i < 6; i++) x.side(i, i % 3, 1);
        due("all with sides", x.count(5), 6);
        due("one taken away", x.side(5, 0, 0), 1);
        due("one less", x.count(5), 5);
    }

    private static int partsOf(int s) {
        int many = 0;
        for (int i = 1; i <= s; i++) {
            int a = s;
            int b = i;
            while (b != 0) {
                int c = a % b;
                a = b;
                b = c;
            }
            if (a == 1) many++;
        }
        return many;
    }

    private static void wide() {
        sentence(30, "as many as there are numbers 1 .. S that share no part with S");
        CoilWorks x = new CoilWorks();
        due("at first", x.wide(), 4);
        for (int s = 24; s >= 6; s--) {
            x.slots(s);
            due("wide of " + s, x.wide(), partsOf(s));
            due("the last number", x.star(0, 1, x.wide() - 1), 0);
            due("one more", x.star(0, 1, x.wide()), BAD_STAR);
        }
        due("wide of 6", x.wide(), 2);
        x.slots(23);
        due("wide of 23", x.wide(), 22);
        due("refused", x.slots(25), BAD);
        due("wide of 23", x.wide(), 22);
    }

    // ---- promise 31

    private static void refusedStars() {
        sentence(31, "Number i of THE STAR. BAD: -1000: i, too");
        beyond("star(v, 1, 0)", 0, 2, (x, v) -> x.star(v, 1, 0), BAD_STAR);
        beyond("star(0, v, 0)", 0, 24, (x, v) -> x.star(0, v, 0), BAD_STAR);
        beyond("star(0, 1, v)", 0, 22, (x, v) -> x.star(0, 1, v), BAD_STAR);
        NEW.refuses("star(0, 1, 4) of 12", x -> x.star(0, 1, 4), BAD_STAR);
        SMALL.refuses("star(0, 1, 6) of 9", x -> x.star(0, 1, 6), BAD_STAR);
        FULLY.refuses("star(0, 1, 8) of 24", x -> x.star(0, 1, 8), BAD_STAR);
        SMALL.refuses("asking changes nothing", x -> x.star(1, 1, 3), 1);
    }

    private static void dueRow(CoilWorks x, int phase, int k, int... numbers) {
        due("wide", x.wide(), numbers.length);
        for (int i = 0; i < numbers.length; i++) {
            due("star(" + phase + ", " + k + ", " + i + ")", x.star(phase, k, i), numbers[i]);
        }
    }

    private static void stars() {
        sentence(31, "a wave k (0 .. 24)");
        CoilWorks x = slots(12);
        x.side(1, 0, 1);
        dueRow(x, 0, 0, 1, 0, 0, 0);
        dueRow(x, 0, 1, 0, 1, 0, 0);
        dueRow(x, 0, 3, 0, 0, 0, 1);
        // z^4 is z z less 1, so that z^11 is z less z z z.
        dueRow(x, 0, 4, -1, 0, 1, 0);
        dueRow(x, 0, 11, 0, 1, 0, -1);
        dueRow(x, 0, 12, 1, 0, 0, 0);
        dueRow(x, 0, 13, 0, 1, 0, 0);
        dueRow(x, 0, 23, 0, 1, 0, -1);
        dueRow(x, 0, 24, 1, 0, 0, 0);
        sentence(31, "the turn by k s by S of a whole turn");
        CoilWorks y = slots(24);
        y.side(23, 1, -1);
        // By 23 * 24 of 24: a whole turn; by 23 of 24: one back; z^8 is z^4 less 1, so that z^23 is z^3 less z^7.
        dueRow(y, 1, 24, -1, 0, 0, 0, 0, 0, 0, 0);
        dueRow(y, 1, 23, 0, -1, 0, 0, 0, 0, 0, 0);
        dueRow(y, 1, 1, 0, 0, 0, -1, 0, 0, 0, 1);
        dueRow(y, 1, 12, 1, 0, 0, 0, 0, 0, 0, 0);
        dueRow(y, 0, 1, 0, 0, 0, 0, 0, 0, 0, 0);
        sentence(31, "the sum over its slots s of the sign");
        CoilWorks z = slots(24);
        for (int i = 0; i < 24; i++) z.side(i, 2, 1);
        dueRow(z, 2, 0, 24, 0, 0, 0, 0, 0, 0, 0);
        dueRow(z, 2, 24, 24, 0, 0, 0, 0, 0, 0, 0);
        dueRow(z, 2, 23, 0, 0, 0, 0, 0, 0, 0, 0);
        dueRow(z, 2, 1, 0, 0, 0, 0, 0, 0, 0, 0);
        for (int i = 0; i < 24; i++) z.side(i, 2, -1);
        dueRow(z, 2, 0, -24, 0, 0, 0, 0, 0, 0, 0);
    }

    /** The row of whole numbers is the only one that gives the sum: it is put together again and held beside the sum. */
    private static void allStars() {
        sentence(31, "c0 + c1 z + c2 z z + .. just so, with whole numbers");
        for (int s = 6; s <= 24; s++) {
            for (int k = 0; k <= 24; k++) {
                CoilWorks x = slots(s);
                double a = 0;
                double b = 0;
                for (int i = 0; i < s; i++) {
                    int sign = (i * i + k + s) % 4 == 0 ? -1 : 1;
                    int phase = (i * 5 + k) % 7 == 0 ? 1 : 0;
                    x.side(i, phase, sign);
                    if (phase != 0) continue;
                    a += sign * Math.cos(2 * Math.PI * k * i / s);
                    b += sign * Math.sin(2 * Math.PI * k * i / s);
                }
                int wide = x.wide();
                for (int i = 0; i < wide; i++) {
                    a -= x.star(0, k, i) * Math.cos(2 * Math.PI * i / s);
                    b -= x.star(0, k, i) * Math.sin(2 * Math.PI * i / s);
                }
                due("star of " + s + " slots for " + k + " is near", Math.abs(a) + Math.abs(b) < NEAR ? 1 : 0, 1);
            }
        }
    }

    // ---- promise 32

    private static void refusedEvens() {
        sentence(32, "EVEN: 1, 0. BAD");
        beyond("even(v)", 0, 24, (x, v) -> x.even(v), BAD);
        SMALL.refuses("asking changes nothing", x -> x.even(1), 1);
        CoilWorks x = slots(7);
        due("BAD where S is no number of threes", x.even(25), BAD);
        due("0 there", x.even(24), 0);
    }

    private static void even() {
        sentence(32, "S is a number of threes");
        for (int s = 6; s <= 24; s++) {
            CoilWorks x = slots(s);
            for (int k = 0; k <= 24; k++) due("no sides, S " + s + ", k " + k, x.even(k), s % 3 == 0 ? 1 : 0);
        }
        sentence(32, "THE STAR of phase 1 is that of phase 0 turned by k S by 3 parts, and that of 2 that of 1 likewise");
        for (int s = 6; s <= 24; s += 3) {
            CoilWorks x = slots(s);
            x.side(0, 0, 1);
            due("one alone", x.even(1), 0);
            x.side(s / 3, 1, 1);
            due("two", x.even(1), 0);
            x.side(2 * s / 3, 2, 1);
            for (int k = 0; k <= 24; k++) due("three by thirds, S " + s + ", k " + k, x.even(k), 1);
            x.side(2 * s / 3, 2, -1);
            for (int k = 0; k <= 24; k += 8) due("the third the other way", x.even(k), 0);
            x.side(2 * s / 3, 2, 0);
            x.side(2 * s / 3 - 1, 2, 1);
            due("the third one slot off", x.even(1), 0);
            due("for no wave at all it is even", x.even(0), 1);
        }
    }

    private static void evenByThrees() {
        sentence(32, "turned by k S by 3 parts");
        CoilWorks x = slots(12);
        x.side(0, 0, 1);
        x.side(8, 1, 1);
        x.side(4, 2, 1);
        for (int k = 0; k <= 24; k++) due("led round the other way, k " + k, x.even(k), k % 3 == 0 ? 1 : 0);
        // Phase 1 is right, phase 2 is not: both have to be.
        CoilWorks y = slots(12);
        y.side(0, 0, 1);
        y.side(4, 1, 1);
        due("2 has none", y.even(1), 0);
        y.side(4, 1, 0);
        y.side(8, 2, 1);
        due("1 has none", y.even(1), 0);
        y.side(0, 0, 0);
        due("0 and 1 have none", y.even(1), 0);
        y.side(4, 1, 1);
        due("0 has none", y.even(1), 0);
        // Stars that are the same though their sides are not: a side and one a half turn on by the other sign.
        CoilWorks z = slots(12);
        z.side(0, 0, 1);
        z.side(10, 1, -1);
        z.side(2, 2, -1);
        due("odd waves", z.even(1), 1);
        due("odd waves", z.even(5), 1);
        due("even waves", z.even(2), 0);
    }

    // ---- promise 33

    private static void refusedSpans() {
        sentence(33, "SPANS for k: the i-th. NONE: not so many. BAD: i below 0, too");
        beyond("span(v, 0)", 0, 24, (x, v) -> x.span(v, 0), BAD);
        everywhere("span(0, -1)", x -> x.span(0, -1), BAD);
        everywhere("span(24, least)", x -> x.span(24, LOWEST), BAD);
        everywhere("span(25, -1)", x -> x.span(25, -1), BAD);
        everywhere("span(0, most)", x -> x.span(0, HIGHEST), NONE);
        everywhere("span(0, 23)", x -> x.span(0, 23), NONE);
    }

    private static void dueSpans(CoilWorks x, int k, int... spans) {
        for (int i = 0; i < spans.length; i++) due("span(" + k + ", " + i + ")", x.span(k, i), spans[i]);
        due("span(" + k + ", " + spans.length + "), one more", x.span(k, spans.length), NONE);
    }

    private static void spans() {
        sentence(33, "a span c (1 .. S less 1)");
        for (int s : new int[] {6, 12, 23, 24}) {
            CoilWorks x = slots(s);
            x.side(s - 1, 0, -1);
            int[] all = new int[s - 1];
            for (int c = 1; c < s; c++) all[c - 1] = c;
            dueSpans(x, 0, all);
            dueSpans(x, 1);
        }
        sentence(33, "c by which THE STAR of phase 0 for k is NOUGHT so: all of them rising");
        CoilWorks x = slots(24);
        x.side(0, 0, 1);
        x.side(1, 0, 1);
        dueSpans(x, 24, 1, 2, 3, 4, 5, 6, 7, 8, 9, 10, 11, 12, 13, 14, 15, 16, 17, 18, 19, 20, 21, 22, 23);
        dueSpans(x, 23);
        dueSpans(x, 2, 12);
        dueSpans(x, 6, 4, 8, 12, 16, 20);
        dueSpans(x, 8, 3, 6, 9, 12, 15, 18, 21);
        dueSpans(x, 9, 8, 16);
        dueSpans(x, 5);
        CoilWorks y = slots(7);
        y.side(3, 0, 1);
        dueSpans(y, 6);
        dueSpans(y, 7, 1, 2, 3, 4, 5, 6);
        dueSpans(y, 8);
        dueSpans(y, 14, 1, 2, 3, 4, 5, 6);
        dueSpans(y, 24);
    }

    private static double[] led(int s, int[] signs, int k, int span) {
        double[] sum = new double[2];
        for (int i = 0; i < s; i++) {
            for (int end = 0; end <= 1; end++) {
                double angle = 2 * Math.PI * k * (i + end * span) / s;
                sum[0] += (end == 0 ? signs[i] : -signs[i]) * Math.cos(angle);
                sum[1] += (end == 0 ? signs[i] : -signs[i]) * Math.sin(angle);
            }
        }
        return sum;
    }

    /** The ends of the spans are led on round the slots, and summed up one by one. */
    private static void spansBeyondTheLast() {
        sentence(33, "led back a span c (1 .. S less 1) farther on, by the other sign");
        for (int s = 6; s <= 24; s++) {
            int[] signs = new int[s];
            for (int i = 0; i < s; i++) signs[i] = (i * i + s) % 5 == 0 ? -1 : (i * 7 + s) % 3 == 0 ? 1 : 0;
            for (int k = 0; k <= 24; k++) {
                CoilWorks x = slots(s);
                for (int i = 0; i < s; i++) x.side(i, 0, signs[i]);
                int many = 0;
                for (int c = 1; c < s; c++) {
                    double[] sum = led(s, signs, k, c);
                    if (Math.abs(sum[0]) + Math.abs(sum[1]) > NEAR) continue;
                    due("S " + s + ", span(" + k + ", " + many + ")", x.span(k, many), c);
                    many++;
                }
                due("S " + s + ", span(" + k + ", " + many + ")", x.span(k, many), NONE);
            }
        }
    }

    private static void noughtByItself() {
        sentence(33, "NOUGHT: THE STAR is 0");
        CoilWorks x = slots(6);
        dueSpans(x, 1, 1, 2, 3, 4, 5);
        x.side(0, 1, 1);
        x.side(1, 2, -1);
        dueSpans(x, 1, 1, 2, 3, 4, 5);
        x.side(2, 0, 1);
        dueSpans(x, 1);
        x.side(5, 0, 1);
        dueSpans(x, 1, 1, 2, 3, 4, 5);
        dueSpans(x, 2, 3);
        x.side(5, 0, -1);
        dueSpans(x, 1);
        dueSpans(x, 2, 1, 2, 3, 4, 5);
        sentence(33, "THE STAR of phase 0");
        x.side(5, 1, -1);
        dueSpans(x, 2, 3);
    }
}
