/** The promises one by one, each with ordinary numbers, the edges that the document names, and wrong numbers. */
public final class CoilWorksPromises {
    private static final int NONE = CoilWorks.NONE, BAD = CoilWorks.BAD, NO = CoilWorks.NO, FULL = CoilWorks.FULL;
    private static final int MIN = Integer.MIN_VALUE, MAX = Integer.MAX_VALUE;
    private static int wrong = 0;

    public static void main(String[] args) {
        newObject();
        iron();
        gapAndGapAt();
        magnetTurnsCurrentSource();
        turn();
        writeAndErase();
        fault();
        flowAndOver();
        part();
        linkedAndEach();
        storedAndPush();
        still();
        limbsAndFloor();
        sureWay();
        seeAndForget();
        fits();
        grade();
        slotsAndSides();
        stars();
        even();
        span();
        feedLimitsRun();
        bodies();
        first();
        images();
        countAndDigest();
        refusalsChangeNothing();
        System.out.println(wrong == 0 ? "promises: all answers are as due" : "promises: " + wrong + " answers are not as due");
        if (wrong != 0) System.exit(1);
    }

    private static void due(String call, long got, long want) {
        if (got == want) return;
        wrong++;
        System.out.println(call + " answered " + got + ", due is " + want);
    }

    private static void write(CoilWorks x, String path) {
        x.erase();
        for (int i = 0; i < path.length(); i++) due("write in " + path, x.write(path.charAt(i)), i + 1);
    }

    private static int faultOf(CoilWorks x, String path) {
        write(x, path);
        return x.fault();
    }

    /** THE FRACTION, where it has no more than one limb above and below. */
    private static void dueFraction(String call, CoilWorks x, int sign, long above, long below) {
        due(call + " limbs above", x.limbs(0), above == 0 ? 0 : 1);
        due(call + " above", x.limb(0, 0), above == 0 ? NONE : above);
        due(call + " limbs below", x.limbs(1), 1);
        due(call + " below", x.limb(1, 0), below);
        due(call + " cut down", x.floor(), Math.floorDiv(sign * above, below));
    }

    // Promise 1
    private static void newObject() {
        CoilWorks x = new CoilWorks();
        int[] counts = {0, 0, 0, 0, 12, 0, BAD, BAD};
        for (int i = 0; i < counts.length; i++) due("new: count " + i, x.count(i), counts[i]);
        dueFraction("new: fraction", x, 1, 0, 1);
        due("new: fault", x.fault(), 1);
        due("new: i", x.ran(0), 0);
        due("new: on", x.ran(1), 1);
        due("new: switches", x.ran(2), 0);
        due("new: ticks", x.ran(3), 0);
        due("new: from 0", x.from(0), NO);
        due("new: from 1", x.from(1), NO);
        long h = 337;
        int[] told = {0, 0, 0, 0, 12, 0, 0, 0, 0, 0};
        for (int v : told) h = 31 * h + v;
        for (int i = 0; i < 12; i++) h = 31 * h;
        h = ((h * 31 + 0) * 31 + 1) * 31 * 31;
        for (int i = 0; i < 4; i++) h = 31 * h;
        due("new: digest", x.digest(), h);
    }

    // Promise 2
    private static void iron() {
        CoilWorks x = new CoilWorks();
        due("iron, highest", x.iron(200, 9999, 200, 10000, 200), 0);
        due("iron, lowest", x.iron(1, 1, 1, 2, 1), 1);
        due("iron s1 201", x.iron(201, 1, 1, 2, 1), BAD);
        due("iron s1 0", x.iron(0, 1, 0, 2, 0), BAD);
        due("iron s2 over s1", x.iron(5, 1, 6, 2, 1), BAD);
        due("iron s3 over s2", x.iron(5, 1, 4, 2, 5), BAD);
        due("iron s3 0", x.iron(5, 1, 4, 2, 0), BAD);
        due("iron x1 0", x.iron(5, 0, 4, 2, 1), BAD);
        due("iron x1 is x2", x.iron(5, 2, 4, 2, 1), BAD);
        due("iron x2 10001", x.iron(5, 2, 4, 10001, 1), BAD);
        due("iron far", x.iron(MAX, MAX, MAX, MAX, MAX), BAD);
        due("iron far below", x.iron(MIN, MIN, MIN, MIN, MIN), BAD);
        for (int i = 2; i < 7; i++) due("iron " + i, x.iron(9, 8, 7, 9, 5), i);
        due("iron, the 8th", x.iron(9, 8, 7, 9, 5), FULL);
        due("iron, the 8th, bad as well", x.iron(9, 8, 10, 9, 5), BAD);
        due("iron, count", x.count(0), 7);
    }

    // Promises 3, 4
    private static void gapAndGapAt() {
        CoilWorks x = new CoilWorks();
        for (int i = 0; i < 6; i++) due("gap " + i, x.gap(), i);
        due("iron between", x.iron(2, 1, 1, 2, 1), 6);
        due("gap, the 8th", x.gap(), FULL);
        due("gapAt at first", x.gapAt(0, 0, 200), 10);
        due("gapAt again", x.gapAt(0, 0, 1), 200);
        due("gapAt again", x.gapAt(0, 0, 7), 1);
        due("gapAt, last turn", x.gapAt(5, 23, 3), 10);
        due("gapAt 0", x.gapAt(0, 0, 0), BAD);
        due("gapAt 201", x.gapAt(0, 0, 201), BAD);
        due("gapAt turn 24", x.gapAt(0, 24, 3), BAD);
        due("gapAt turn -1", x.gapAt(0, -1, 3), BAD);
        due("gapAt of iron", x.gapAt(6, 0, 3), BAD);
        due("gapAt of none", x.gapAt(7, 0, 3), BAD);
        due("gapAt of -1", x.gapAt(-1, 0, 3), BAD);
        due("gapAt was kept", x.gapAt(0, 0, 5), 7);
    }

    // Promises 5 to 8
    private static void magnetTurnsCurrentSource() {
        CoilWorks x = new CoilWorks();
        due("magnet of none", x.magnet(0, 1), BAD);
        x.gap();
        x.iron(2, 1, 1, 2, 1);
        due("source at first", x.source(0), 0);
        due("magnet", x.magnet(0, 5000), 1);
        due("magnet 5001", x.magnet(0, 5001), BAD);
        due("magnet -5001", x.magnet(0, -5001), BAD);
        due("magnet of iron", x.magnet(1, -5000), 1);
        due("turns", x.turns(0, 0, 50), 1);
        due("turns", x.turns(3, 0, -50), 1);
        due("turns 51", x.turns(0, 0, 51), BAD);
        due("turns -51", x.turns(0, 0, -51), BAD);
        due("turns winding 4", x.turns(4, 0, 1), BAD);
        due("turns winding -1", x.turns(-1, 0, 1), BAD);
        due("turns of no piece", x.turns(0, 2, 1), BAD);
        due("current", x.current(0, 100), 1);
        due("current", x.current(3, -100), 1);
        due("current 101", x.current(0, 101), BAD);
        due("current -101", x.current(0, -101), BAD);
        due("current winding 4", x.current(4, 1), BAD);
        due("current winding -1", x.current(-1, 1), BAD);
        due("source", x.source(0), 5000 + 5000 + 5000);
        due("source of iron", x.source(1), -5000);
        due("source of none", x.source(2), -1000000);
        due("source of -1", x.source(-1), -1000000);
    }

    // Promise 9
    private static void turn() {
        CoilWorks x = new CoilWorks();
        due("turn", x.turn(23), 0);
        due("turn", x.turn(24), BAD);
        due("turn", x.turn(-1), BAD);
        due("turn", x.turn(0), 23);
        due("turn", x.count(3), 0);
    }

    // Promises 10, 11
    private static void writeAndErase() {
        CoilWorks x = new CoilWorks();
        due("write 128", x.write(128), BAD);
        due("write -1", x.write(-1), BAD);
        due("erase empty", x.erase(), 0);
        for (int i = 0; i < 40; i++) due("write", x.write(i % 2 == 0 ? 127 : 0), i + 1);
        due("write, the 41st", x.write(97), FULL);
        due("write, the 41st, bad as well", x.write(128), BAD);
        due("characters", x.count(1), 40);
        due("erase", x.erase(), 40);
        due("characters", x.count(1), 0);
        due("write", x.write(97), 1);
    }

    // Promise 12
    private static void fault() {
        CoilWorks x = new CoilWorks();
        for (int i = 0; i < 3; i++) x.gap();
        due("a", faultOf(x, "a"), NONE);
        due("a-b|c", faultOf(x, "a-b|c"), NONE);
        due("blanks", faultOf(x, "  ( a -b ) | c "), NONE);
        due("empty", faultOf(x, ""), 1);
        due("blanks alone", faultOf(x, "   "), 31);
        due("too early behind a sign", faultOf(x, "a- "), 31);
        due("too early with ( open", faultOf(x, "(a|(b)"), 61);
        due("a sign first", faultOf(x, "-a"), 1);
        due("two signs", faultOf(x, "a-|b"), 21);
        due("( and ) alone", faultOf(x, "()"), 11);
        due("a ) of no (", faultOf(x, "a)"), 11);
        due("two letters", faultOf(x, "ab"), 11);
        due("a ( behind an end", faultOf(x, "a(b)"), 11);
        due("another sign", faultOf(x, "a+b"), 11);
        due("another letter", faultOf(x, "a-h"), 21);
        due("a great letter", faultOf(x, "A"), 1);
        due("a tab", faultOf(x, "\ta"), 1);
        due("a letter of no piece", faultOf(x, "a-d"), 22);
        due("a letter of no piece where none can stand", faultOf(x, "ad"), 11);
        due("a letter again", faultOf(x, "a|b-a"), 43);
        due("a letter again where none can stand", faultOf(x, "aa"), 11);
        due("the first of two", faultOf(x, "a-a-d)"), 23);
        due("8 ( open", faultOf(x, "((((((((a))))))))"), NONE);
        due("9 ( open", faultOf(x, "(((((((((a)))))))))"), 84);
        due("9 ( but 8 open", faultOf(x, "(a)|((((((((b))))))))"), NONE);
        due("9 ( but 8 open, again", faultOf(x, "((((((((a)|(b))))))))"), NONE);
        due("a ( behind an end with 8 open", faultOf(x, "((((((((a("), 91);
        write(x, "d");
        due("d of no piece", x.fault(), 2);
        x.gap();
        due("d now there", x.fault(), NONE);
        x.erase();
        for (int i = 0; i < 39; i++) x.write(' ');
        due("39 blanks", x.fault(), 391);
        x.write('c');
        due("39 blanks and a piece", x.fault(), NONE);
        x.erase();
        for (int i = 0; i < 40; i++) x.write(' ');
        due("40 blanks", x.fault(), 401);
    }

    // Promises 13, 14
    private static void flowAndOver() {
        CoilWorks x = new CoilWorks();
        x.gap();
        x.gap();
        x.gap();
        due("flow without a path", x.flow(0), -20);
        due("over without a path", x.over(0), -20);
        due("flow of none without a path", x.flow(3), -10);
        due("over of none without a path", x.over(-1), -10);
        x.gapAt(0, 0, 1);
        x.gapAt(1, 0, 2);
        x.magnet(0, -1);
        write(x, "a-b");
        // One loop: x1 = flow, x2 = flow by 2, together -1.
        due("flow", x.flow(0), -1);
        dueFraction("flow", x, -1, 2, 3);
        due("over", x.over(1), -1);
        dueFraction("over", x, -1, 1, 3);
        due("flow of none", x.flow(3), -10);
        dueFraction("as it was", x, -1, 1, 3);
        due("flow of what is left out", x.flow(2), 0);
        dueFraction("left out", x, 1, 0, 1);
        // Side by side at the whole's ends: each road is closed on itself.
        write(x, "a|b");
        due("flow of a closed road", x.flow(0), -1);
        dueFraction("flow of a closed road", x, -1, 1, 1);
        due("flow of the other", x.flow(1), 0);
        // At another turn the gaps are others.
        write(x, "a-b");
        x.turn(1);
        due("flow at turn 1", x.flow(0), -1);
        dueFraction("flow at turn 1", x, -1, 5, 1);
        // Iron on its way down alike: 100 push: 10 * 5 + 20 * 3 + 70 * 1.
        CoilWorks y = new CoilWorks();
        y.iron(5, 10, 3, 30, 1);
        write(y, "a");
        int[][] due = {{10, 50}, {11, 53}, {30, 110}, {31, 111}, {100, 180}};
        for (int[] row : due) {
            for (int sign = -1; sign <= 1; sign += 2) {
                y.magnet(0, sign * row[0]);
                due("over of iron", y.over(0), sign);
                dueFraction("over of iron", y, sign, row[0], 1);
                due("flow of iron", y.flow(0), sign);
                dueFraction("flow of iron", y, sign, row[1], 1);
            }
        }
    }

    // Promise 15
    private static void part() {
        CoilWorks x = new CoilWorks();
        x.iron(5, 10, 3, 30, 1);
        x.gap();
        x.iron(5, 10, 3, 30, 1);
        due("part with a fault", x.part(0), NO);
        due("part of none", x.part(3), BAD);
        write(x, "a|b");
        int[][] due = {{0, 0}, {10, 0}, {11, 1}, {30, 1}, {31, 2}, {5000, 2}};
        for (int[] row : due) {
            x.magnet(0, row[0]);
            due("part at " + row[0], x.part(0), row[1]);
            x.magnet(0, -row[0]);
            due("part at -" + row[0], x.part(0), row[1]);
        }
        x.magnet(1, 5000);
        x.magnet(2, 5000);
        due("part of a gap", x.part(1), 0);
        due("part of what is left out", x.part(2), 0);
        due("part of -1", x.part(-1), BAD);
    }

    // Promises 16, 17
    private static void linkedAndEach() {
        CoilWorks x = new CoilWorks();
        x.gap();
        x.iron(5, 10, 3, 30, 1);
        due("linked with a fault", x.linked(0), -20);
        due("linked of no winding", x.linked(4), -10);
        due("each with a fault", x.each(0, 1), -20);
        due("each of no winding", x.each(0, 4), -10);
        due("each of no winding", x.each(-1, 0), -10);
        write(x, "a|b");
        x.turns(0, 0, 3);
        x.turns(0, 1, -2);
        x.turns(1, 1, 10);
        x.current(1, 1);
        // The push over b is 10: flow 50; that over a is 0.
        due("linked 0", x.linked(0), -1);
        dueFraction("linked 0", x, -1, 100, 1);
        due("linked 1", x.linked(1), 1);
        dueFraction("linked 1", x, 1, 500, 1);
        due("linked 2", x.linked(2), 0);
        due("linked -1", x.linked(-1), -10);
        // With one more in winding 1 the push over b is 20: its flow 80.
        due("each 0 1", x.each(0, 1), -1);
        dueFraction("each 0 1", x, -1, 60, 1);
        due("each 1 1", x.each(1, 1), 1);
        dueFraction("each 1 1", x, 1, 300, 1);
        due("each 2 1", x.each(2, 1), 0);
        // At the most current one more is meant all the same: pushes 1000 and 1010, both in the last part.
        x.current(1, 100);
        due("each at 100", x.each(1, 1), 1);
        dueFraction("each at 100", x, 1, 100, 1);
        due("linked as it was", x.linked(1), 1);
        dueFraction("linked as it was", x, 1, 10800, 1);
    }

    // Promises 18, 19
    private static void storedAndPush() {
        CoilWorks x = new CoilWorks();
        due("stored with a fault", x.stored(), -20);
        due("push with a fault", x.push(0), -20);
        due("push of turn 24 with a fault", x.push(24), -10);
        x.gap();
        x.iron(5, 10, 3, 30, 1);
        write(x, "a|b");
        due("stored of rest", x.stored(), 0);
        x.magnet(1, 40);
        // 0 .. 10: 250; 10 .. 30: 20 * (50 + 110) / 2 = 1600; 30 .. 40: 10 * (110 + 120) / 2 = 1150.
        due("stored of iron", x.stored(), 1);
        dueFraction("stored of iron", x, 1, 3000, 1);
        x.magnet(1, -40);
        due("stored of iron the other way", x.stored(), 1);
        dueFraction("stored of iron the other way", x, 1, 3000, 1);
        x.magnet(0, 1);
        due("stored of both", x.stored(), 1);
        dueFraction("stored of both", x, 1, 3005, 1);
        x.gapAt(0, 0, 7);
        due("stored, a half", x.stored(), 1);
        dueFraction("stored, a half", x, 1, 6007, 2);
        due("push 0", x.push(0), 1);
        dueFraction("push 0", x, 1, 3, 2);
        due("push 23", x.push(23), -1);
        dueFraction("push 23", x, -1, 3, 2);
        due("push 5", x.push(5), 0);
        dueFraction("push 5", x, 1, 0, 1);
        due("push 24", x.push(24), -10);
        due("push -1", x.push(-1), -10);
        due("the turn is as it was", x.count(3), 0);
    }

    // Promise 20
    private static void still() {
        CoilWorks x = new CoilWorks();
        x.gap();
        due("still with a fault", x.still(0), NO);
        due("still 2 with a fault", x.still(2), BAD);
        write(x, "a");
        due("still of rest", x.still(0), (1 << 24) - 1);
        due("stays of rest", x.still(1), 0);
        x.magnet(0, 2);
        // What is stored rises up to turn 12 and falls from there on.
        for (int t = 0; t < 24; t++) x.gapAt(0, t, 50 + (t <= 12 ? t : 24 - t));
        due("still", x.still(0), 1 << 12);
        due("stays", x.still(1), 1 << 12);
        x.gapAt(0, 13, 62);
        due("still on a flat top", x.still(0), 3 << 12);
        due("stays on a flat top", x.still(1), 0);
        // A top at turn 0: the turn ahead of it is 23.
        for (int t = 0; t < 24; t++) x.gapAt(0, t, 50 + Math.abs(12 - t));
        due("still at 0", x.still(0), 1);
        due("stays at 0", x.still(1), 1);
        due("still -1", x.still(-1), BAD);
    }

    // Promises 21 to 23
    private static void limbsAndFloor() {
        CoilWorks x = new CoilWorks();
        due("limbs -1", x.limbs(-1), BAD);
        due("limbs 2", x.limbs(2), BAD);
        due("limb of part 2", x.limb(2, 0), BAD);
        due("limb -1", x.limb(0, -1), BAD);
        due("limb far", x.limb(1, MAX), NONE);
        due("limb far below", x.limb(1, MIN), BAD);
        for (int p = 0; p < 7; p++) {
            x.gap();
            for (int t = 0; t < 2; t++) x.gapAt(p, t, 200 - t);
            x.magnet(p, 5000);
            for (int w = 0; w < 4; w++) x.turns(w, p, 50);
        }
        for (int w = 0; w < 4; w++) x.current(w, 100);
        write(x, "a|b|c|d|e|f|g");
        // 7 times 200 by 2 times 25000 squared: nothing stores more.
        due("stored", x.stored(), 1);
        due("two limbs", x.limbs(0), 2);
        due("lower limb", x.limb(0, 0), 437500000000L % (1L << 30));
        due("higher limb", x.limb(0, 1), 437500000000L >> 30);
        due("no third limb", x.limb(0, 2), NONE);
        due("floor", x.floor(), 437500000000L);
        CoilWorks y = new CoilWorks();
        for (int p = 0; p < 7; p++) {
            y.gap();
            y.gapAt(p, 0, 200);
            y.magnet(p, 5000);
            for (int w = 0; w < 4; w++) y.turns(w, p, 50);
            for (int t = 1; t < 24; t++) y.gapAt(p, t, 1);
        }
        for (int w = 0; w < 4; w++) y.current(w, 100);
        // One road from a to g: at turn 0 and from 2 on all are alike, so that each push is the source.
        write(y, "a-b-c-d-e-f-g");
        for (int p = 0; p < 6; p++) y.gapAt(p, 1, 200);
        due("flow", y.flow(0), 1);
        due("floor of the flow", y.floor(), 5000000);
        due("push", y.push(1), -1);
        due("push the other way", y.push(23), 1);
        due("floor", y.floor(), 7L * 199 * 25000L * 25000 / 2);
        // Below 0 the floor goes down: -2 by 3 is -1.
        CoilWorks z = new CoilWorks();
        z.gap();
        z.gap();
        z.gapAt(0, 0, 1);
        z.gapAt(1, 0, 2);
        z.magnet(0, -1);
        write(z, "a-b");
        z.flow(0);
        due("floor of -2 by 3", z.floor(), -1);
        z.magnet(0, -3);
        z.flow(0);
        due("floor of -2", z.floor(), -2);
    }

    /** Machines on which going by the parts that are seen runs in a ring, so that a surer way has to be gone. */
    private static void sureWay() {
        CoilWorks x = new CoilWorks();
        x.iron(100, 200, 2, 280, 2);
        x.iron(100, 80, 10, 90, 2);
        x.magnet(0, 200);
        x.magnet(1, 400);
        write(x, "a-b");
        // Together they are 600: 100 of a is 8100 and 2 for each that b has beyond 90.
        for (int i = 0; i < 2; i++) {
            due("over a", x.over(0), 1);
            dueFraction("over a", x, 1, 1520, 17);
            due("over b", x.over(1), 1);
            dueFraction("over b", x, 1, 8680, 17);
            due("part of b", x.part(1), 2);
        }
        // The same with two side by side.
        CoilWorks y = new CoilWorks();
        y.iron(200, 60, 10, 230, 1);
        y.iron(100, 50, 2, 170, 2);
        y.gap();
        y.magnet(0, 300);
        y.magnet(1, 200);
        write(y, "a-(b|c)");
        // With a drop d of b and c the flow is 200 (300 - d) = 5000 + 2 (150 + d) + 10 d.
        due("over c", y.over(2), 1);
        dueFraction("over c", y, 1, 13675, 53);
    }

    // Promises 24, 25
    private static void seeAndForget() {
        CoilWorks x = new CoilWorks();
        due("see of no piece", x.see(0, 0, 0), BAD);
        x.gap();
        due("forget nothing", x.forget(), 0);
        due("see", x.see(0, 0, 1000000000000L), 1);
        due("see", x.see(23, 0, -1000000000000L), 2);
        due("see beyond", x.see(0, 0, 1000000000001L), BAD);
        due("see beyond", x.see(0, 0, -1000000000001L), BAD);
        due("see far", x.see(0, 0, Long.MIN_VALUE), BAD);
        due("see far", x.see(0, 0, Long.MAX_VALUE), BAD);
        due("see at turn 24", x.see(24, 0, 0), BAD);
        due("see at turn -1", x.see(-1, 0, 0), BAD);
        due("see of piece 1", x.see(0, 1, 0), BAD);
        for (int i = 3; i <= 6; i++) due("see", x.see(0, 0, 0), i);
        due("see, the 7th", x.see(0, 0, 0), FULL);
        due("see, the 7th, bad as well", x.see(0, 0, 1000000000001L), BAD);
        due("seen", x.count(2), 6);
        due("forget", x.forget(), 6);
        due("seen", x.count(2), 0);
        due("see", x.see(0, 0, 0), 1);
    }

    // Promise 26
    private static void fits() {
        CoilWorks x = new CoilWorks();
        x.gap();
        x.gap();
        due("fits with a fault", x.fits(), NO);
        write(x, "a");
        due("nothing seen: all faults fit, of magnets those of pieces that are there", x.fits(), (1 << 11) - 1);
        for (int w = 0; w < 4; w++) {
            x.turns(w, 0, 1);
            x.current(w, w == 0 ? -7 : 10 * w);
        }
        x.magnet(0, 5);
        // The source: 5 - 7 + 10 + 20 + 30 = 58, the flow 580.
        due("see", x.see(0, 0, 580), 1);
        due("right, and the magnet of b is none", x.fits(), 1 | 1 << 10);
        long[] without = {650, 480, 380, 280};
        // Winding 2 shorted is 10 less, as winding 1 open.
        int[] open = {2, 4 | 128, 8, 16};
        for (int w = 0; w < 4; w++) {
            x.forget();
            x.see(0, 0, without[w]);
            due("open " + w, x.fits(), open[w]);
        }
        // Half of -7 is -3: the source 62.
        x.forget();
        x.see(0, 0, 620);
        due("shorted 0", x.fits(), 1 << 5);
        x.forget();
        x.see(0, 0, 530);
        due("shorted 1 and the magnet of a", x.fits(), 1 << 6 | 1 << 9);
        x.see(3, 0, 531);
        due("all of them, or none", x.fits(), 0);
        x.forget();
        x.gapAt(0, 3, 3);
        x.see(0, 0, 430);
        x.see(3, 0, 129);
        due("at its own turn", x.fits(), 1 << 8);
        due("the currents are as they were", x.source(0), 58);
        // -2 by 3 is cut down to -1.
        CoilWorks y = new CoilWorks();
        y.gap();
        y.gap();
        y.gapAt(0, 0, 1);
        y.gapAt(1, 0, 2);
        y.magnet(0, -1);
        write(y, "a-b");
        y.see(0, 1, -1);
        due("cut down", y.fits(), 511 | 1 << 10);
        y.forget();
        y.see(0, 1, 0);
        due("cut toward 0 it is not, but 0 without the magnet", y.fits(), 1 << 9);
    }

    // Promise 27
    private static void grade() {
        CoilWorks x = new CoilWorks();
        x.iron(50, 10, 20, 30, 5);
        x.gap();
        due("grade with a fault", x.grade(0, 1, 30, 0), NO);
        due("grade, bad, with a fault", x.grade(0, 1, 31, 0), BAD);
        write(x, "a");
        x.magnet(0, 8);
        due("nothing seen: all that are not below S2", x.grade(0, 1, 30, 0), 11);
        due("the least", x.grade(0, 1, 30, 1), 20);
        due("none", x.grade(0, 1, 19, 0), 0);
        due("none, the least", x.grade(0, 1, 19, 1), NONE);
        x.see(0, 0, 8 * 33);
        due("one", x.grade(0, 20, 49, 0), 1);
        due("it", x.grade(0, 20, 49, 1), 33);
        due("it, at the ends", x.grade(0, 33, 33, 1), 33);
        due("not up to it", x.grade(0, 3, 32, 0), 0);
        due("highest", x.grade(0, 171, 200, 0), 0);
        due("30 numbers", x.grade(0, 171, 200, 1), NONE);
        due("31 numbers", x.grade(0, 170, 200, 0), BAD);
        due("from 0", x.grade(0, 0, 5, 0), BAD);
        due("to 201", x.grade(0, 190, 201, 0), BAD);
        due("from above to", x.grade(0, 6, 5, 0), BAD);
        due("what 2", x.grade(0, 1, 5, 2), BAD);
        due("what -1", x.grade(0, 1, 5, -1), BAD);
        due("of a gap", x.grade(1, 1, 5, 0), BAD);
        due("of none", x.grade(2, 1, 5, 0), BAD);
        due("far", x.grade(0, MIN, MAX, 0), BAD);
        x.flow(0);
        due("S1 is as it was", x.floor(), 400);
    }

    // Promises 28 to 30
    private static void slotsAndSides() {
        CoilWorks x = new CoilWorks();
        due("slots 5", x.slots(5), BAD);
        due("slots 25", x.slots(25), BAD);
        due("slots as they were", x.count(4), 12);
        due("side", x.side(11, 2, -1), 1);
        due("side of slot 12", x.side(12, 0, 1), BAD);
        due("side of slot -1", x.side(-1, 0, 1), BAD);
        due("side of phase 3", x.side(0, 3, 1), BAD);
        due("side of phase -1", x.side(0, -1, 1), BAD);
        due("side of sign 2", x.side(0, 0, 2), BAD);
        due("side of sign -2", x.side(0, 0, -2), BAD);
        due("none of phase 3", x.side(0, 3, 0), BAD);
        due("sides", x.count(5), 1);
        due("side anew", x.side(11, 0, 1), 1);
        due("sides", x.count(5), 1);
        due("no side", x.side(11, 1, 0), 1);
        due("sides", x.count(5), 0);
        x.side(3, 1, 1);
        due("slots", x.slots(12), 1);
        due("all without sides", x.count(5), 0);
        int[] wide = {2, 6, 4, 6, 4, 10, 4, 12, 6, 8, 8, 16, 6, 18, 8, 12, 10, 22, 8};
        for (int s = 6; s <= 24; s++) {
            due("slots", x.slots(s), 1);
            due("wide of " + s, x.wide(), wide[s - 6]);
            due("count", x.count(4), s);
            due("last slot", x.side(s - 1, 0, 1), 1);
            due("one more", x.side(s, 0, 1), BAD);
        }
    }

    private static void dueStar(CoilWorks x, int phase, int k, int... numbers) {
        for (int i = 0; i < numbers.length; i++) due("star " + phase + ", " + k + ", " + i, x.star(phase, k, i), numbers[i]);
        due("star, one number more", x.star(phase, k, numbers.length), -1000);
    }

    // Promise 31
    private static void stars() {
        CoilWorks x = new CoilWorks();
        x.slots(6);
        // A sixth of a turn: z z = z - 1.
        x.side(2, 0, 1);
        dueStar(x, 0, 1, -1, 1);
        dueStar(x, 0, 0, 1, 0);
        dueStar(x, 0, 2, 0, -1);
        dueStar(x, 0, 3, 1, 0);
        dueStar(x, 0, 7, -1, 1);
        dueStar(x, 0, 24, 1, 0);
        dueStar(x, 1, 1, 0, 0);
        x.side(5, 0, -1);
        // z^5 = 1 - z.
        dueStar(x, 0, 1, -2, 2);
        x.side(2, 2, -1);
        dueStar(x, 0, 1, -1, 1);
        dueStar(x, 2, 1, 1, -1);
        due("star phase 3", x.star(3, 1, 0), -1000);
        due("star phase -1", x.star(-1, 1, 0), -1000);
        due("star k 25", x.star(0, 25, 0), -1000);
        due("star k -1", x.star(0, -1, 0), -1000);
        due("star i -1", x.star(0, 1, -1), -1000);
        // A seventh: the six others make up for the last.
        x.slots(7);
        x.side(6, 1, 1);
        dueStar(x, 1, 1, -1, -1, -1, -1, -1, -1);
        for (int i = 0; i < 7; i++) x.side(i, 1, 1);
        dueStar(x, 1, 1, 0, 0, 0, 0, 0, 0);
        dueStar(x, 1, 7, 7, 0, 0, 0, 0, 0);
        // A fourth twice over: z^4 = -1.
        x.slots(8);
        x.side(5, 0, 1);
        dueStar(x, 0, 1, 0, -1, 0, 0);
        dueStar(x, 0, 3, 0, 0, 0, -1);
    }

    // Promise 32
    private static void even() {
        CoilWorks x = new CoilWorks();
        due("even -1", x.even(-1), BAD);
        due("even 25", x.even(25), BAD);
        due("nothing is even", x.even(24), 1);
        x.slots(7);
        due("7 is not a number of threes", x.even(1), 0);
        due("7, bad", x.even(25), BAD);
        x.slots(6);
        x.side(0, 0, 1);
        due("one alone", x.even(0), 0);
        x.side(2, 1, 1);
        x.side(4, 2, 1);
        for (int k = 0; k <= 24; k++) due("by thirds, " + k, x.even(k), 1);
        x.side(4, 1, 1);
        x.side(2, 2, 1);
        // The other way round it is even for waves that are numbers of threes alone.
        for (int k = 0; k <= 24; k++) due("the other way, " + k, x.even(k), k % 3 == 0 ? 1 : 0);
        x.side(2, 2, -1);
        due("with another sign", x.even(0), 0);
    }

    // Promise 33
    private static void span() {
        CoilWorks x = new CoilWorks();
        for (int i = 0; i < 11; i++) due("nothing: all spans", x.span(1, i), i + 1);
        due("nothing: no more", x.span(1, 11), NONE);
        x.side(0, 0, 1);
        due("k 1", x.span(1, 0), NONE);
        due("k 0", x.span(0, 10), 11);
        due("k 12", x.span(12, 0), 1);
        due("k 3", x.span(3, 0), 4);
        due("k 3", x.span(3, 1), 8);
        due("k 3", x.span(3, 2), NONE);
        due("k 10", x.span(10, 0), 6);
        due("k 10", x.span(10, 1), NONE);
        due("i -1", x.span(3, -1), BAD);
        due("k -1", x.span(-1, 0), BAD);
        due("k 25", x.span(25, 0), BAD);
        due("i far", x.span(3, MAX), NONE);
        // Two sides a half turn apart: nought for odd waves.
        x.side(6, 0, 1);
        due("k 5 is nought by itself", x.span(5, 0), 1);
        due("k 4", x.span(4, 0), 3);
        x.side(6, 1, 1);
        due("phase 0 counts alone", x.span(5, 0), NONE);
    }

    // Promises 34 to 37
    private static void feedLimitsRun() {
        CoilWorks x = new CoilWorks();
        due("feed v", x.feed(-1, 0, 1), BAD);
        due("feed v", x.feed(10001, 0, 1), BAD);
        due("feed r", x.feed(0, -1, 1), BAD);
        due("feed r", x.feed(0, 1001, 1), BAD);
        due("feed l", x.feed(0, 0, 0), BAD);
        due("feed l", x.feed(0, 0, 100001), BAD);
        due("feed", x.feed(10000, 1000, 100000), 1);
        due("limits high", x.limits(1000001, 0), BAD);
        due("limits low", x.limits(5, -1), BAD);
        due("limits low above high", x.limits(5, 6), BAD);
        due("limits", x.limits(1000000, 1000000), 1);
        due("limits", x.limits(0, 0), 1);
        due("limits", x.limits(1000, 900), 1);
        due("run 0", x.run(0), BAD);
        due("run 1001", x.run(1001), BAD);
        due("ran -1", x.ran(-1), BAD);
        due("ran 4", x.ran(4), BAD);
        due("feed", x.feed(1, 3, 7), 1);
        // 1000 by 7; then (1000 - 426) by 7.
        due("run", x.run(1), 142);
        due("run", x.run(1), 142 + 82);
        due("ran 3", x.ran(3), 2);
        // High and low are met just where i is on them; off, what goes is cut toward 0.
        due("limits", x.limits(224, 223), 1);
        due("off", x.run(1), 224 - 96);
        due("ran 1", x.ran(1), 0);
        due("ran 2", x.ran(2), 1);
        due("limits", x.limits(224, 128), 1);
        due("on", x.run(1), 128 + (1000 - 384) / 7);
        due("ran 1", x.ran(1), 1);
        due("ran 2", x.ran(2), 2);
        due("ran 0", x.ran(0), 216);
        // Never below 0; with high and low alike it goes one way in a tick.
        due("limits", x.limits(216, 216), 1);
        due("feed", x.feed(1, 1000, 1), 1);
        due("off to 0", x.run(1), 0);
        due("ran 2", x.ran(2), 3);
        due("on from 0", x.run(1), 1000);
        due("off again", x.run(1), 0);
        due("ran 2", x.ran(2), 5);
        due("1000 ticks", x.run(1000), 0);
        due("ran 2", x.ran(2), 1005);
        due("ran 3", x.ran(3), 1007);
        // The greatest: 10000000 a tick.
        CoilWorks y = new CoilWorks();
        y.feed(10000, 0, 1);
        y.limits(1000000, 0);
        due("greatest", y.run(1), 10000000);
        due("and no more", y.run(1000), 10000000);
        due("ran 2", y.ran(2), 1);
        y.feed(0, 1000, 1);
        due("to 0", y.run(1), 0);
        CoilWorks z = new CoilWorks();
        due("not fed", z.run(5), 0);
    }

    // Promises 38 to 41
    private static void bodies() {
        CoilWorks x = new CoilWorks();
        due("body 4", x.body(4, 1, 0, 0), BAD);
        due("body -1", x.body(-1, 1, 0, 0), BAD);
        due("room 0", x.body(0, 0, 0, 0), BAD);
        due("room 1001", x.body(0, 1001, 0, 0), BAD);
        due("heat -1", x.body(0, 1, -1, 0), BAD);
        due("heat 100001", x.body(0, 1, 100001, 0), BAD);
        due("out -1", x.body(0, 1, 0, -1), BAD);
        due("out 101", x.body(0, 1, 0, 101), BAD);
        due("joint alike", x.joint(2, 2, 1), BAD);
        due("joint 4", x.joint(0, 4, 1), BAD);
        due("joint -1", x.joint(-1, 0, 1), BAD);
        due("joint v -1", x.joint(0, 1, -1), BAD);
        due("joint v 101", x.joint(0, 1, 101), BAD);
        due("warm 0", x.warm(0), BAD);
        due("warm 1001", x.warm(1001), BAD);
        due("warmth 4", x.warmth(4), BAD);
        due("warmth -1", x.warmth(-1), BAD);
        due("cold stays cold", x.warm(1000), 0);
        due("body", x.body(3, 1000, 100000, 100), 1);
        due("warm", x.warm(1), 0);
        due("warmth 3", x.warmth(3), 100);
        due("warm", x.warm(1), 0);
        due("warmth 3", x.warmth(3), 190);
        due("joint", x.joint(3, 1, 100), 1);
        // 1 gets 19000 by its room of 10; 3: 100000 - 19000 - 19000 by 1000. Both from what was ahead.
        due("warm", x.warm(1), 0);
        due("warmth 1", x.warmth(1), 1900);
        due("warmth 3", x.warmth(3), 252);
        // Cut toward 0: 1 loses 1900 + 164800 by 10 = 16670, and is 0 then; 3: (100000 + 164800 - 25200) by 1000.
        due("warm", x.warm(1), 0);
        due("warmth 1, not below 0", x.warmth(1), 0);
        due("warmth 3", x.warmth(3), 252 + 239);
        CoilWorks y = new CoilWorks();
        y.body(0, 1, 5, 0);
        due("warm", y.warm(3), 15);
        y.body(0, 10, 0, 1);
        // 15 by 10 is cut to 1, 9 by 10 to 0.
        due("cut toward 0", y.warm(1), 14);
        due("cut toward 0", y.warm(20), 9);
        y.body(0, 1, 100000, 0);
        for (int i = 0; i < 10; i++) y.warm(1000);
        due("hottest", y.warmth(0), 1000000000);
        y.joint(0, 2, 100);
        y.body(2, 1, 0, 0);
        due("no hotter, and none below 0", y.warm(1), 0);
        due("no hotter", y.warmth(2), 1000000000);
    }

    // Promise 42
    private static void first() {
        CoilWorks x = new CoilWorks();
        due("first of body 4", x.first(4, 0), BAD);
        due("first of body -1", x.first(-1, 0), BAD);
        due("bound -1", x.first(0, -1), BAD);
        due("bound too great", x.first(0, 1000000001), BAD);
        due("bound greatest", x.first(0, 1000000000), NONE);
        due("never", x.first(0, 0), NONE);
        x.body(0, 1, 1, 0);
        due("first tick", x.first(0, 0), 1);
        due("above, not on it", x.first(0, 10), 11);
        due("last tick", x.first(0, 999), 1000);
        due("none", x.first(0, 1000), NONE);
        due("nothing changes", x.warmth(0), 0);
        x.warm(500);
        due("from now on", x.first(0, 501), 2);
        due("above already", x.first(0, 3), 1);
        x.body(0, 1, 0, 0);
        due("above and at rest", x.first(0, 499), 1);
        due("at rest", x.first(0, 500), NONE);
        // Of two bodies: the second gets warm later on.
        x.body(0, 10, 0, 1);
        x.joint(0, 1, 1);
        due("the other body", x.first(1, 40), 1);
        due("the other body", x.first(1, 90), 3);
    }

    // Promises 43, 44
    private static void images() {
        CoilWorks x = new CoilWorks();
        due("image 2", x.image(2), BAD);
        due("image -1", x.image(-1), BAD);
        due("from 2", x.from(2), BAD);
        due("from -1", x.from(-1), BAD);
        due("from none", x.from(1), NO);
        due("image of nothing", x.image(1), 1);
        due("from none", x.from(0), NO);
        long empty = x.digest();
        x.gap();
        x.iron(5, 4, 3, 10, 1);
        x.gapAt(0, 7, 99);
        x.magnet(1, 4);
        x.turns(2, 1, 3);
        x.current(2, 1);
        x.turn(9);
        write(x, "b|a");
        x.see(1, 1, 29);
        x.slots(9);
        x.side(4, 1, -1);
        x.feed(1, 2, 10);
        x.limits(150, 149);
        x.run(3);
        x.body(0, 7, 60, 2);
        x.joint(0, 1, 9);
        x.warm(4);
        x.flow(1);
        long full = x.digest();
        int run = x.ran(0);
        due("image", x.image(0), 1);
        due("from the empty one", x.from(1), 1);
        due("digest", x.digest(), empty);
        dueFraction("the fraction stays", x, 1, 4 * 5 + 3 * 3, 1);
        due("the rest is gone", x.flow(1), -10);
        due("not fed", x.run(5), 0);
        due("no heat", x.warm(5), 0);
        due("gap", x.gap(), 0);
        due("from the full one", x.from(0), 1);
        due("digest", x.digest(), full);
        due("flow", x.flow(1), 1);
        due("fits, but not winding 2 and the magnet of b", x.fits(), 1023 - 8 - 128);
        due("i", x.ran(0), run);
        CoilWorks y = new CoilWorks();
        y.feed(1, 2, 10);
        y.limits(150, 149);
        y.run(3);
        due("it goes on alike", x.run(20), y.run(20));
        due("switched alike", x.ran(2), y.ran(2));
        y.body(0, 7, 60, 2);
        y.joint(0, 1, 9);
        y.warm(4);
        due("warm alike", x.warm(9), y.warm(9));
        due("warm alike", x.warmth(1), y.warmth(1));
        due("an image stays as it is", x.from(0), 1);
        due("digest", x.digest(), full);
        due("the other image is there too", x.from(1), 1);
        due("digest", x.digest(), empty);
        due("image anew", x.image(0), 1);
        due("from it", x.from(0), 1);
        due("digest", x.digest(), empty);
    }

    // Promises 45, 46
    private static void countAndDigest() {
        CoilWorks x = new CoilWorks();
        due("count -1", x.count(-1), BAD);
        due("count 6", x.count(6), BAD);
        x.gap();
        x.iron(5, 4, 3, 10, 1);
        x.gap();
        x.gapAt(2, 23, 77);
        x.magnet(1, -4);
        x.turns(3, 1, 6);
        x.current(1, -9);
        x.write(97);
        x.write(1);
        x.see(22, 2, -1000000000000L);
        x.turn(21);
        x.side(5, 2, -1);
        x.side(6, 0, 1);
        x.feed(1, 0, 10);
        x.run(12);
        x.body(2, 10, 1000, 0);
        x.warm(1);
        long h = 337;
        int[] counts = {3, 2, 1, 21, 12, 2};
        for (int i = 0; i < 6; i++) {
            due("count " + i, x.count(i), counts[i]);
            h = 31 * h + counts[i];
        }
        int[] pieces = {0, 0, 0, 0, 0, 0, 0, 0, 0, 0, 5, 4, 3, 10, 1, -4, 0, 0, 0, 6, 0, 0, 0, 0, 0, 0, 0, 0, 0, 0};
        for (int v : pieces) h = 31 * h + v;
        for (int i = 0; i < 47; i++) h = 31 * h + 10;
        h = 31 * h + 77;
        int[] others = {0, -9, 0, 0, 97, 1, 22, 2};
        for (int v : others) h = 31 * h + v;
        h = 31 * h - 1000000000000L;
        int[] slots = {0, 0, 0, 0, 0, -12, 10, 0, 0, 0, 0, 0};
        for (int v : slots) h = 31 * h + v;
        // 100 a tick up to 1000, then off, where nothing goes.
        int[] last = {1000, 0, 1, 12, 0, 0, 100, 0};
        for (int v : last) h = 31 * h + v;
        due("digest", x.digest(), h);
    }

    private static void refusalsChangeNothing() {
        CoilWorks x = new CoilWorks();
        for (int i = 0; i < 7; i++) x.gap();
        x.magnet(0, 3);
        write(x, "a");
        x.flow(0);
        x.image(0);
        long was = x.digest();
        x.gap();
        x.iron(5, 4, 3, 10, 1);
        x.gapAt(7, 0, 5);
        x.magnet(0, 5001);
        x.turns(0, 0, 51);
        x.current(0, 101);
        x.turn(24);
        x.write(128);
        x.flow(7);
        x.over(-1);
        x.linked(4);
        x.each(0, -1);
        x.push(24);
        x.see(0, 0, MAX * 1000L);
        x.slots(25);
        x.side(12, 0, 1);
        x.feed(1, 1, 0);
        x.limits(1, 2);
        x.run(1001);
        x.body(0, 0, 1, 1);
        x.joint(1, 1, 1);
        x.warm(1001);
        x.image(2);
        x.from(1);
        due("digest", x.digest(), was);
        dueFraction("fraction", x, 1, 30, 1);
    }
}
