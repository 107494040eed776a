/** Promises 34 to 42: each sentence that names a bound, at the bound and one step beyond it. */
public final class CoilWorksBoundsOfTimes extends Bench {
    private static final int HOTTEST = 1000000000;

    public static void main(String[] args) {
        feed();
        limits();
        limitsAtFirst();
        runs();
        high();
        low();
        oneWayATick();
        cutOfCurrents();
        neverBelow();
        greatestCurrents();
        ran();
        body();
        joint();
        bodiesAtFirst();
        warm();
        cutOfWarmths();
        fromWhatWasAhead();
        hottest();
        refusedFirsts();
        first();
        lastFirst();
        end("bounds of the switched winding and the bodies");
    }

    // ---- promises 34 to 37

    private static void feed() {
        sentence(34, "V (0 .. 10000)");
        beyond("feed(v, 0, 1)", 0, 10000, (x, v) -> x.feed(v, 0, 1), BAD);
        sentence(34, "R (0 .. 1000)");
        beyond("feed(1, v, 1)", 0, 1000, (x, v) -> x.feed(1, v, 1), BAD);
        sentence(34, "L (1 .. 100000)");
        beyond("feed(1, 1, v)", 1, 100000, (x, v) -> x.feed(1, 1, v), BAD);
        sentence(34, "V, R, L: 1. BAD");
        CoilWorks x = new CoilWorks();
        due("all least", x.feed(0, 0, 1), 1);
        due("V 0: nothing comes", x.run(9), 0);
        due("all greatest", x.feed(10000, 1000, 100000), 1);
        due("10000000 by 100000", x.run(1), 100);
        due("10000000 less 100000 by 100000", x.run(1), 199);
        due("told again", x.feed(0, 1000, 1000), 1);
        due("1000 i by 1000 less: all of it", x.run(1), 0);
        due("least L", x.feed(1, 0, 1), 1);
        due("1000 at once", x.run(1), 1000);
        CoilWorks y = new CoilWorks();
        due("not fed yet", y.run(1000), 0);
        due("on all the same", y.ran(1), 1);
    }

    private static void limits() {
        sentence(35, "HIGH and LOW (0 .. 1000000; 1000, 900)");
        beyond("limits(v, 0)", 0, 1000000, (x, v) -> x.limits(v, 0), BAD);
        beyond("limits(1000000, v)", 0, 1000000, (x, v) -> x.limits(1000000, v), BAD);
        sentence(35, "HIGH, LOW: 1. BAD: LOW above HIGH, too");
        everywhere("LOW one above HIGH", x -> x.limits(5, 6), BAD);
        everywhere("LOW one above HIGH", x -> x.limits(0, 1), BAD);
        everywhere("LOW far above HIGH", x -> x.limits(999999, 1000000), BAD);
        CoilWorks x = new CoilWorks();
        due("both 0", x.limits(0, 0), 1);
        due("alike", x.limits(5, 5), 1);
        due("both greatest", x.limits(1000000, 1000000), 1);
        due("farthest apart", x.limits(1000000, 0), 1);
        due("one apart", x.limits(6, 5), 1);
    }

    private static void limitsAtFirst() {
        sentence(35, "1000, 900");
        CoilWorks x = new CoilWorks();
        x.feed(999, 0, 1000);
        due("999", x.run(1), 999);
        due("on at 999", x.run(1), 1998);
        due("off at 1998", x.run(1), 1998);
        CoilWorks y = new CoilWorks();
        y.feed(1, 0, 1);
        due("1000", y.run(1), 1000);
        due("on still", y.ran(1), 1);
        due("off at 1000", y.run(1), 1000);
        due("off", y.ran(1), 0);
        y.feed(1, 99, 1000);
        due("901", y.run(1), 901);
        y.feed(1, 0, 1);
        due("off at 901", y.run(1), 901);
        y.feed(1, 1, 900);
        due("900", y.run(1), 900);
        y.feed(1, 0, 1);
        due("on at 900", y.run(1), 1900);
        due("on", y.ran(1), 1);
    }

    private static void runs() {
        sentence(36, "n ticks (1 .. 1000) of the SWITCHED winding: i. BAD");
        beyond("run(v)", 1, 1000, (x, v) -> x.run(v), BAD);
        CoilWorks x = new CoilWorks();
        x.limits(1000000, 0);
        x.feed(1, 0, 1000);
        due("1 tick", x.run(1), 1);
        due("1000 ticks", x.run(1000), 1001);
        due("999 ticks", x.run(999), 2000);
        due("ticks", x.ran(3), 2000);
        due("refused", x.run(0), BAD);
        due("refused", x.run(1001), BAD);
        due("ticks", x.ran(3), 2000);
        // So many at once are as many one by one.
        CoilWorks y = new CoilWorks();
        CoilWorks z = new CoilWorks();
        y.feed(50, 7, 300);
        z.feed(50, 7, 300);
        for (int i = 0; i < 300; i++) y.run(1);
        due("300 ticks", z.run(300), y.ran(0));
        for (int what = 0; what < 4; what++) due("ran", z.ran(what), y.ran(what));
    }

    private static CoilWorks at(int i, int high, int low) {
        CoilWorks x = new CoilWorks();
        x.limits(1000000, 0);
        x.feed(i, 0, 1000);
        due("i", x.run(1), i);
        x.limits(high, low);
        x.feed(1, 0, 1000);
        return x;
    }

    private static void high() {
        sentence(36, "if it is on and i is HIGH or more it goes off");
        for (int high : new int[] {1, 2, 500, 9999}) {
            CoilWorks below = at(high - 1, high, 0);
            due("one below HIGH", below.run(1), high);
            due("on", below.ran(1), 1);
            due("switched", below.ran(2), 0);
            CoilWorks just = at(high, high, 0);
            due("just HIGH", just.run(1), high);
            due("off", just.ran(1), 0);
            due("switched", just.ran(2), 1);
            CoilWorks above = at(high + 1, high, 0);
            due("one above HIGH", above.run(1), high + 1);
            due("off", above.ran(1), 0);
        }
        CoilWorks zero = at(0, 0, 0);
        due("HIGH 0", zero.run(1), 0);
        due("off", zero.ran(1), 0);
        CoilWorks greatest = new CoilWorks();
        greatest.limits(1000000, 1000000);
        greatest.feed(1000, 0, 1);
        due("1000000", greatest.run(1), 1000000);
        due("off at the greatest HIGH", greatest.run(1), 1000000);
    }

    private static void low() {
        sentence(36, "if off and i is LOW or less on");
        for (int low : new int[] {1, 500, 9998}) {
            for (int by = -1; by <= 1; by++) {
                CoilWorks x = at(low + by, 0, 0);
                due("off", x.run(1), low + by);
                due("off", x.ran(1), 0);
                x.limits(10000, low);
                due("by " + by, x.run(1), by <= 0 ? low + by + 1 : low + by);
                due("on", x.ran(1), by <= 0 ? 1 : 0);
                due("switched", x.ran(2), by <= 0 ? 2 : 1);
            }
        }
        CoilWorks zero = at(0, 0, 0);
        zero.run(1);
        due("LOW 0, i 0", zero.run(1), 1);
        due("on", zero.ran(1), 1);
        // On, LOW says nothing; off, HIGH says nothing.
        CoilWorks x = at(5, 10, 8);
        due("below LOW, on", x.run(1), 6);
        due("switched", x.ran(2), 0);
        CoilWorks y = at(20, 10, 8);
        due("off", y.run(3), 20);
        due("above HIGH, off", y.ran(2), 1);
    }

    private static void oneWayATick() {
        sentence(36, "if it is on and i is HIGH or more it goes off, if off and i is LOW or less on");
        CoilWorks x = at(7, 7, 7);
        due("HIGH and LOW alike: off", x.run(1), 7);
        due("once", x.ran(2), 1);
        due("on", x.run(1), 8);
        due("twice", x.ran(2), 2);
        due("off", x.run(1), 8);
        due("it stays off above LOW", x.run(5), 8);
        due("three times", x.ran(2), 3);
        CoilWorks y = at(0, 0, 0);
        y.feed(0, 0, 1);
        due("1000 ticks", y.run(1000), 0);
        due("each tick another way", y.ran(2), 1000);
        due("on", y.ran(1), 1);
    }

    private static void cutOfCurrents() {
        sentence(36, "i becomes i and (1000 V where on, less R i) by L, cut");
        CoilWorks x = at(10, 1000, 0);
        x.feed(1, 0, 1001);
        due("1000 by 1001", x.run(1), 10);
        x.feed(1, 0, 501);
        due("1000 by 501", x.run(1), 11);
        x.feed(1, 0, 500);
        due("1000 by 500", x.run(1), 13);
        // Less than 0 is cut toward 0 as well: -13 by 14, by 13, by 7.
        x.feed(0, 1, 14);
        due("-13 by 14", x.run(1), 13);
        x.feed(0, 1, 7);
        due("-13 by 7", x.run(1), 12);
        x.feed(0, 1, 12);
        due("-12 by 12", x.run(1), 11);
        // On and off: 1000 and -22 by 100, and -22 by 100.
        x.feed(1, 2, 100);
        due("978 by 100", x.run(1), 20);
        x.limits(20, 0);
        due("-40 by 100, off", x.run(1), 20);
        x.feed(1, 5, 100);
        due("-100 by 100, off", x.run(1), 19);
    }

    private static void neverBelow() {
        sentence(36, "never below 0");
        for (int r = 0; r <= 3; r++) {
            CoilWorks x = at(5, 1000, 0);
            x.feed(0, r, 2);
            // 5 and -5, -10, -15 by 2: 3, 0, and -2 is 0.
            due("R " + r, x.run(1), r == 0 ? 5 : r == 1 ? 3 : 0);
        }
        CoilWorks y = at(10000, 1000000, 0);
        y.feed(0, 1000, 1);
        due("far below", y.run(1), 0);
        due("from 0", y.run(10), 0);
        y.feed(1, 1000, 1);
        due("up again", y.run(1), 1000);
        due("and down", y.run(1), 0);
    }

    private static void greatestCurrents() {
        sentence(36, "V (0 .. 10000)");
        CoilWorks x = new CoilWorks();
        x.limits(1000000, 0);
        x.feed(999, 0, 1);
        due("999000", x.run(1), 999000);
        x.feed(10000, 0, 1);
        due("on below HIGH, the greatest", x.run(1), 10999000);
        due("off", x.run(1000), 10999000);
        x.feed(10000, 1000, 100000);
        due("1000 of it by 100000", x.run(1), 10999000 - 109990);
        x.feed(10000, 1000, 1);
        due("no less than 0", x.run(1), 0);
    }

    private static void ran() {
        sentence(37, "Of it: 0 i, 1 on (1, 0), 2 how often it went off or on, 3 ticks. BAD");
        beyond("ran(v)", 0, 3, (x, v) -> x.ran(v), BAD);
        SMALL.refuses("asking changes nothing", x -> x.ran(3), 17);
        CoilWorks x = new CoilWorks();
        int[] atFirst = {0, 1, 0, 0};
        for (int what = 0; what < 4; what++) due("at first, ran(" + what + ")", x.ran(what), atFirst[what]);
        x.feed(1, 0, 2);
        x.limits(1000, 1000);
        x.run(2);
        int[] ahead = {1000, 1, 0, 2};
        for (int what = 0; what < 4; what++) due("ahead, ran(" + what + ")", x.ran(what), ahead[what]);
        x.run(1);
        int[] off = {1000, 0, 1, 3};
        for (int what = 0; what < 4; what++) due("off, ran(" + what + ")", x.ran(what), off[what]);
        x.run(1);
        int[] on = {1500, 1, 2, 4};
        for (int what = 0; what < 4; what++) due("on, ran(" + what + ")", x.ran(what), on[what]);
    }

    // ---- promises 38 to 41

    private static void body() {
        sentence(38, "BODIES 0 .. 3");
        beyond("body(v, 10, 0, 1)", 0, 3, (x, v) -> x.body(v, 10, 0, 1), BAD);
        sentence(38, "ROOM (1 .. 1000; 10)");
        beyond("body(0, v, 0, 1)", 1, 1000, (x, v) -> x.body(0, v, 0, 1), BAD);
        sentence(38, "HEAT that comes each tick (0 .. 100000; 0)");
        beyond("body(0, 10, v, 1)", 0, 100000, (x, v) -> x.body(0, 10, v, 1), BAD);
        sentence(38, "a way out (0 .. 100; 1) to 0");
        beyond("body(3, 10, 0, v)", 0, 100, (x, v) -> x.body(3, 10, 0, v), BAD);
        sentence(38, "ROOM, HEAT, way out of a BODY: 1. BAD");
        CoilWorks x = new CoilWorks();
        for (int b = 0; b < 4; b++) {
            due("least", x.body(b, 1, 0, 0), 1);
            due("no heat", x.warm(1), 0);
            due("no heat", x.warmth(b), 0);
            due("greatest heat", x.body(b, 1, 100000, 0), 1);
            x.warm(1);
            due("by a ROOM of 1", x.warmth(b), 100000);
            due("greatest ROOM", x.body(b, 1000, 100000, 0), 1);
            x.warm(1);
            due("by a ROOM of 1000", x.warmth(b), 100100);
            due("greatest way out", x.body(b, 1000, 0, 100), 1);
            x.warm(1);
            due("a tenth less", x.warmth(b), 90090);
            due("greatest way out, least ROOM", x.body(b, 1, 0, 100), 1);
            x.warm(1);
            due("nothing left", x.warmth(b), 0);
        }
    }

    private static void joint() {
        sentence(39, "JOINTS of two carry (0 .. 100; 0)");
        beyond("joint(0, 1, v)", 0, 100, (x, v) -> x.joint(0, 1, v), BAD);
        beyond("joint(v, 1, 5)", 0, 3, (x, v) -> x.joint(v, 1, 5), BAD);
        beyond("joint(1, v, 5)", 0, 3, (x, v) -> x.joint(1, v, 5), BAD);
        sentence(39, "A JOINT (both ways): 1. BAD: alike, too");
        for (int b = 0; b < 4; b++) {
            int alike = b;
            everywhere("joint(" + b + ", " + b + ", 5)", x -> x.joint(alike, alike, 5), BAD);
            everywhere("joint(" + b + ", " + b + ", 0)", x -> x.joint(alike, alike, 0), BAD);
        }
        for (int a = 0; a < 4; a++) {
            for (int b = 0; b < 4; b++) {
                if (a != b) dueJoint(a, b);
            }
        }
    }

    private static void dueJoint(int a, int b) {
        CoilWorks x = new CoilWorks();
        for (int i = 0; i < 4; i++) x.body(i, 1000, 0, 0);
        x.body(a, 1, 10000, 0);
        x.warm(1);
        x.body(a, 1000, 0, 0);
        due("greatest joint", x.joint(a, b, 100), 1);
        x.warm(1);
        for (int i = 0; i < 4; i++) due("warmth " + i, x.warmth(i), i == a ? 9000 : i == b ? 1000 : 0);
        due("the other way round", x.joint(b, a, 50), 1);
        x.warm(1);
        due("the last told alone", x.warmth(a), 8600);
        due("the last told alone", x.warmth(b), 1400);
        due("taken away", x.joint(a, b, 0), 1);
        x.warm(100);
        due("nothing goes", x.warmth(a), 8600);
        due("nothing comes", x.warmth(b), 1400);
    }

    /** A body that was not told takes 1000 by its ROOM of 10 from another, and loses a tenth then. */
    private static void bodiesAtFirst() {
        sentence(38, "WARMTH (0 at first), ROOM (1 .. 1000; 10), HEAT that comes each tick (0 .. 100000; 0)");
        for (int b = 0; b < 4; b++) {
            CoilWorks x = new CoilWorks();
            int other = (b + 1) % 4;
            x.warm(1000);
            for (int i = 0; i < 4; i++) due("WARMTH at first", x.warmth(i), 0);
            x.body(other, 1, 1000, 0);
            x.warm(1);
            due("JOINTS at first", x.warmth(b), 0);
            x.joint(b, other, 1);
            x.warm(1);
            due("ROOM at first", x.warmth(b), 100);
            x.joint(b, other, 0);
            x.warm(1);
            due("way out at first", x.warmth(b), 90);
            x.warm(1);
            due("and again", x.warmth(b), 81);
        }
    }

    private static void warm() {
        sentence(40, "n ticks (1 .. 1000) of BODIES: WARMTH of BODY 0. BAD");
        beyond("warm(v)", 1, 1000, (x, v) -> x.warm(v), BAD);
        CoilWorks x = new CoilWorks();
        x.body(0, 1, 1, 0);
        x.body(3, 1, 2, 0);
        due("1 tick", x.warm(1), 1);
        due("1000 ticks", x.warm(1000), 1001);
        due("999 ticks", x.warm(999), 2000);
        due("refused", x.warm(0), BAD);
        due("refused", x.warm(1001), BAD);
        due("as it was", x.warmth(0), 2000);
        sentence(41, "WARMTH. BAD");
        beyond("warmth(v)", 0, 3, (y, v) -> y.warmth(v), BAD);
        due("the last", x.warmth(3), 4000);
        due("the others", x.warmth(1) + x.warmth(2), 0);
        CoilWorks y = new CoilWorks();
        CoilWorks z = new CoilWorks();
        for (int b = 0; b < 4; b++) {
            y.body(b, 7 + b, 1000 * b, 1);
            z.body(b, 7 + b, 1000 * b, 1);
            y.joint(b, (b + 1) % 4, 1);
            z.joint(b, (b + 1) % 4, 1);
        }
        for (int i = 0; i < 37; i++) y.warm(1);
        due("37 ticks at once", z.warm(37), y.warmth(0));
        for (int b = 0; b < 4; b++) due("warmth", z.warmth(b), y.warmth(b));
    }

    private static CoilWorks warmed(int warmth) {
        CoilWorks x = new CoilWorks();
        x.body(0, 1, warmth, 0);
        due("warmed", x.warm(1), warmth);
        return x;
    }

    private static void cutOfWarmths() {
        sentence(40, "together by its ROOM, cut, more");
        for (int heat = 8; heat <= 21; heat++) {
            CoilWorks x = new CoilWorks();
            x.body(0, 10, heat, 0);
            due(heat + " by 10", x.warm(1), heat / 10);
        }
        for (int warmth = 8; warmth <= 21; warmth++) {
            CoilWorks x = warmed(warmth);
            x.body(0, 10, 0, 1);
            due("-" + warmth + " by 10, toward 0", x.warm(1), warmth - warmth / 10);
        }
        // Together, not each by itself: 9 and -18 by 10 is 0; 9 and -19 is -1.
        CoilWorks x = warmed(18);
        x.body(0, 10, 9, 1);
        due("-9 by 10", x.warm(1), 18);
        CoilWorks y = warmed(19);
        y.body(0, 10, 9, 1);
        due("-10 by 10", y.warm(1), 18);
        CoilWorks z = warmed(6);
        z.body(0, 10, 0, 1);
        z.joint(0, 1, 1);
        due("two of -6 by 10", z.warm(1), 5);
        CoilWorks w = warmed(6);
        w.body(0, 10, 0, 0);
        w.joint(0, 1, 1);
        w.joint(0, 3, 1);
        due("two of -6 by 10, to two others", w.warm(1), 5);
    }

    private static void fromWhatWasAhead() {
        sentence(40, "from each other one JOINT times (that one's WARMTH less its own)");
        CoilWorks x = new CoilWorks();
        int[] heats = {1000, 0, 400, 0};
        for (int b = 0; b < 4; b++) x.body(b, 1, heats[b], 0);
        x.warm(1);
        for (int b = 0; b < 4; b++) x.body(b, 10, 0, 0);
        x.joint(0, 1, 1);
        x.joint(1, 2, 2);
        x.joint(2, 3, 3);
        x.joint(3, 0, 4);
        sentence(40, "all from what was ahead");
        // 0: -1000 - 4000; 1: 1000 + 800; 2: -800 - 1200; 3: 1200 + 4000; by 10.
        due("body 0", x.warm(1), 500);
        int[] dues = {500, 180, 200, 520};
        for (int b = 0; b < 4; b++) due("body " + b, x.warmth(b), dues[b]);
        // 0: -320 + 80; 1: 320 + 40; 2: -40 + 960; 3: -960 - 80.
        due("body 0", x.warm(1), 476);
        int[] next = {476, 216, 292, 416};
        for (int b = 0; b < 4; b++) due("body " + b, x.warmth(b), next[b]);
    }

    private static CoilWorks hot(int body) {
        CoilWorks x = new CoilWorks();
        x.body(body, 1, 100000, 0);
        for (int i = 0; i < 10; i++) x.warm(1000);
        due("the most", x.warmth(body), HOTTEST);
        return x;
    }

    private static void hottest() {
        sentence(40, "brought to 0 .. 1000000000");
        CoilWorks x = new CoilWorks();
        x.body(0, 1, 100000, 0);
        for (int i = 0; i < 9; i++) x.warm(1000);
        due("9999 ticks", x.warm(999), 999900000);
        x.body(0, 1, 99999, 0);
        due("one below it", x.warm(1), 999999999);
        x.body(0, 1, 1, 0);
        due("just it", x.warm(1), HOTTEST);
        due("no more", x.warm(1), HOTTEST);
        x.body(0, 1, 100000, 0);
        due("no more", x.warm(1000), HOTTEST);
        x.body(0, 1000, 0, 1);
        due("down again", x.warm(1), 999000000);
        // All that goes is far below 0, and all that comes far above: 100 by a ROOM of 1.
        CoilWorks y = hot(0);
        y.body(0, 1, 0, 0);
        for (int b = 1; b < 4; b++) {
            y.body(b, 1, 0, 0);
            y.joint(0, b, 100);
        }
        due("three take 100 times it", y.warm(1), 0);
        for (int b = 1; b < 4; b++) due("no more than the most", y.warmth(b), HOTTEST);
        due("and back", y.warm(1), HOTTEST);
        for (int b = 1; b < 4; b++) due("and back", y.warmth(b), 0);
        CoilWorks z = hot(3);
        z.body(3, 1, 0, 100);
        z.warm(1);
        due("by the way out", z.warmth(3), 0);
        z.warm(1);
        due("0 stays", z.warmth(3), 0);
    }

    // ---- promise 42

    private static void refusedFirsts() {
        sentence(42, "BAD: bound 0 .. 1000000000");
        beyond("first(v, 5)", 0, 3, (x, v) -> x.first(v, 5), BAD);
        beyond("first(0, v)", 0, 1000000000, (x, v) -> x.first(0, v), BAD);
        due("the greatest", new CoilWorks().first(3, 1000000000), NONE);
        due("the least", new CoilWorks().first(3, 0), NONE);
        due("the greatest is not left behind", hot(2).first(2, 1000000000), NONE);
        due("one less is", hot(2).first(2, 999999999), 1);
        sentence(42, "nothing changes");
        SMALL.refuses("first", x -> x.first(3, 100000), NONE);
        FULLY.refuses("first", x -> x.first(1, 0), 1);
    }

    private static void first() {
        sentence(42, "FIRST: the tick (1 .. 1000) behind which a BODY is above a bound; none");
        for (int b = 0; b < 4; b++) {
            CoilWorks x = new CoilWorks();
            x.body(b, 1, 7, 0);
            due("above 0", x.first(b, 0), 1);
            due("above 6", x.first(b, 6), 1);
            due("7 is not above 7", x.first(b, 7), 2);
            due("above 13", x.first(b, 13), 2);
            due("above 14", x.first(b, 14), 3);
            due("others", x.first((b + 1) % 4, 0), NONE);
            due("nothing changes", x.warmth(b), 0);
        }
        sentence(42, "FIRST from now on");
        CoilWorks x = new CoilWorks();
        x.body(0, 1, 7, 0);
        x.warm(10);
        due("above 76", x.first(0, 76), 1);
        due("above 77", x.first(0, 77), 2);
        due("above already", x.first(0, 0), 1);
        // The first tick counts, not what was ahead: all is lost in it.
        x.body(0, 1, 0, 100);
        due("above now, not behind a tick", x.first(0, 5), NONE);
        x.body(0, 1, 80, 1);
        due("80 behind the tick", x.first(0, 79), 1);
        due("not above 80", x.first(0, 80), NONE);
        // 0 gives 1000 away in one tick, of which 1 makes 10, and gets back the 10 times 1 of that.
        CoilWorks y = new CoilWorks();
        y.body(0, 1, 1000, 0);
        y.warm(1);
        y.body(0, 1, 0, 0);
        y.body(1, 100, 0, 1);
        y.joint(0, 1, 1);
        due("0 has none behind the first tick, 10 behind the second", y.first(0, 8), 2);
        due("1 has it behind the first tick", y.first(1, 9), 1);
        due("10 is not above 10", y.first(1, 10), NONE);
        due("nothing changes", y.warmth(0), 1000);
    }

    private static void lastFirst() {
        sentence(42, "FIRST: the tick (1 .. 1000)");
        CoilWorks x = new CoilWorks();
        x.body(2, 1, 1, 0);
        due("the 999th", x.first(2, 998), 999);
        due("the 1000th", x.first(2, 999), 1000);
        due("the 1001st is too late", x.first(2, 1000), NONE);
        x.warm(1);
        due("one tick later it is the 1000th", x.first(2, 1000), 1000);
        due("and the next is too late", x.first(2, 1001), NONE);
        // Others go on where the one that is asked for rests.
        CoilWorks y = new CoilWorks();
        y.body(0, 1, 1, 0);
        y.body(1, 1000, 0, 0);
        y.joint(0, 1, 1);
        due("1 rests as long as 0 has less than 1000", y.first(1, 0), NONE);
        y.body(0, 1, 500, 0);
        y.joint(0, 1, 1);
        due("it rests at first, then not", y.first(1, 0), NONE);
        y.body(0, 10, 5000, 0);
        due("0 has 500, 950, 1355 and goes on up", y.first(1, 0), 4);
    }
}
