import java.math.BigInteger;

/** Promises 13 to 23: each sentence that names a bound, at the bound and one step beyond it. */
public final class CoilWorksBoundsOfRest extends Bench {
    public static void main(String[] args) {
        refusedFlows();
        pathsWithFaults();
        leftOut();
        oneEnd();
        ironParts();
        bends();
        gapsByTurn();
        greatestFlows();
        behindAndBeside();
        deepPaths();
        refusedParts();
        parts();
        linked();
        each();
        eachAtTheMost();
        stored();
        areas();
        push();
        still();
        stays();
        limbs();
        limbsOfGreatNumbers();
        lowestTerms();
        cutDown();
        end("bounds of the rest");
    }

    private static CoilWorks gaps(int many, String path) {
        CoilWorks x = new CoilWorks();
        for (int i = 0; i < many; i++) x.gap();
        write(x, path);
        return x;
    }

    private static void carry(CoilWorks x, int piece, int v) {
        for (int t = 0; t < 24; t++) x.gapAt(piece, t, v);
    }

    // ---- promises 13, 14

    private static void refusedFlows() {
        sentence(13, "FLOW of a PIECE is THE FRACTION: its sign. BAD: -10");
        beyondPieces("flow(v)", (x, v) -> x.flow(v), BAD_FRACTION);
        sentence(13, "NO: -20: FAULT");
        FAULTY.refuses("flow", x -> x.flow(0), NO_FRACTION);
        FAULTY.refuses("flow, bad as well", x -> x.flow(7), BAD_FRACTION);
        sentence(14, "x of a PIECE is THE FRACTION: its sign. BAD: -10");
        beyondPieces("over(v)", (x, v) -> x.over(v), BAD_FRACTION);
        sentence(14, "NO: -20");
        FAULTY.refuses("over", x -> x.over(6), NO_FRACTION);
        FAULTY.refuses("over, bad as well", x -> x.over(-1), BAD_FRACTION);
    }

    private static void pathsWithFaults() {
        sentence(13, "NO: -20: FAULT");
        String[] paths = {"", "   ", "a-", "-a", "ab", "a-d", "a|a", "(a", "a)", "(((((((((a)))))))))", "A"};
        for (String path : paths) {
            CoilWorks x = gaps(3, "a");
            x.magnet(0, 7);
            dueFraction("flow", x, x.flow(0), 70, 1);
            write(x, path);
            due("there is a fault in '" + path + "'", x.fault() == NONE ? 1 : 0, 0);
            due("flow by '" + path + "'", x.flow(0), NO_FRACTION);
            due("over", x.over(0), NO_FRACTION);
            due("part", x.part(0), NO);
            due("linked", x.linked(0), NO_FRACTION);
            due("each", x.each(0, 1), NO_FRACTION);
            due("stored", x.stored(), NO_FRACTION);
            due("push", x.push(0), NO_FRACTION);
            due("still", x.still(0), NO);
            due("fits", x.fits(), NO);
            dueFraction("as it was", x, 1, 70, 1);
            write(x, "(a)");
            dueFraction("without the fault", x, x.over(0), 7, 1);
        }
    }

    private static void leftOut() {
        sentence(13, "PIECES not in THE PATH: x and FLOW 0");
        CoilWorks x = gaps(5, "b-d");
        x.iron(20, 5, 10, 6, 5);
        for (int p = 0; p < 6; p++) x.magnet(p, 100 + p);
        for (int p = 0; p < 6; p++) {
            boolean in = p == 1 || p == 3;
            dueFraction("flow " + p, x, x.flow(p), in ? 1020 : 0, 1);
            dueFraction("over " + p, x, x.over(p), in ? 102 : 0, 1);
        }
        due("part", x.part(5), 0);
        x.write('-');
        x.write('f');
        due("in it now", x.part(5), 2);
    }

    private static void oneEnd() {
        sentence(13, "The two ends of THE PATH are one");
        for (String path : new String[] {"a", "(a)", "((((((((a))))))))"}) {
            CoilWorks x = gaps(1, path);
            for (int source = -1; source <= 1; source++) {
                x.magnet(0, source);
                dueFraction("x of a piece alone", x, x.over(0), source, 1);
                dueFraction("flow of it", x, x.flow(0), 10 * source, 1);
            }
        }
        sentence(13, "that of the whole is 0");
        CoilWorks y = gaps(7, "a|b|c|d|e|f|g");
        for (int p = 0; p < 7; p++) y.magnet(p, p * p - 9);
        for (int p = 0; p < 7; p++) dueFraction("each ROAD by itself", y, y.over(p), p * p - 9, 1);
    }

    /** An iron by itself has just the push of its magnet. */
    private static void ironParts() {
        sentence(13, "up to a push X1 it carries S1 for each push, beyond it S2, beyond X2 S3");
        int[][] irons = {{10, 100, 2, 200, 1}, {200, 1, 1, 2, 1}, {200, 4998, 200, 4999, 200}, {3, 1, 2, 4999, 1}};
        for (int[] s : irons) {
            CoilWorks x = new CoilWorks();
            x.iron(s[0], s[1], s[2], s[3], s[4]);
            write(x, "a");
            int[] pushes = {0, 1, s[1] - 1, s[1], s[1] + 1, s[3] - 1, s[3], s[3] + 1};
            for (int push : pushes) {
                int flow = s[0] * Math.min(push, s[1]);
                if (push > s[1]) flow += s[2] * (Math.min(push, s[3]) - s[1]);
                if (push > s[3]) flow += s[4] * (push - s[3]);
                x.magnet(0, push);
                dueFraction("flow at " + push, x, x.flow(0), flow, 1);
                x.magnet(0, -push);
                dueFraction("both ways alike: flow at -" + push, x, x.flow(0), -flow, 1);
            }
        }
        CoilWorks x = new CoilWorks();
        x.iron(2, 9999, 1, 10000, 1);
        write(x, "a");
        x.turns(0, 0, 50);
        x.current(0, 100);
        for (int magnet = 4998; magnet <= 5000; magnet++) {
            x.magnet(0, magnet);
            dueFraction("at the greatest X1, X2", x, x.flow(0), 2 * Math.min(9999, magnet + 5000) + (magnet == 5000 ? 1 : 0), 1);
            due("part", x.part(0), Math.max(0, magnet - 4999));
        }
    }

    /** Iron 10, 100, 2, 200, 1 and a gap that carries 1, behind one another: the bends are at sources 1100 and 1400. */
    private static void bends() {
        sentence(14, "beyond it S2, beyond X2 S3 (S 1 .. 200, none greater than the one ahead; 1 <= X1 < X2 <= 10000), both ways alike");
        int[][] rows = {{1099, 1099, 11, 0}, {1100, 100, 1, 0}, {1101, 301, 3, 1}, {1399, 599, 3, 1}, {1400, 200, 1, 1}, {1401, 401, 2, 2}};
        for (int[] row : rows) {
            for (int sign = -1; sign <= 1; sign += 2) {
                CoilWorks x = new CoilWorks();
                x.iron(10, 100, 2, 200, 1);
                x.gap();
                carry(x, 1, 1);
                x.magnet(1, sign * row[0]);
                write(x, "a-b");
                dueFraction("over at " + row[0], x, x.over(0), sign * row[1], row[2]);
                dueFraction("over of the gap", x, x.over(1), sign * (row[0] * row[2] - row[1]), row[2]);
                dueFraction("flow, the same of both", x, x.flow(0), sign * (row[0] * row[2] - row[1]), row[2]);
                due("part at " + row[0], x.part(0), row[3]);
                due("part of the gap", x.part(1), 0);
            }
        }
    }

    private static void gapsByTurn() {
        sentence(13, "for each TURN 0 .. 23 (one behind the other, 0 behind 23) it carries a number");
        CoilWorks x = gaps(1, "a");
        x.magnet(0, 1);
        for (int t = 0; t < 24; t++) x.gapAt(0, t, t < 12 ? 1 + t : 200 - t);
        for (int t = 0; t < 24; t++) {
            x.turn(t);
            due("flow at TURN " + t, x.flow(0), 1);
            due("flow at TURN " + t, x.floor(), t < 12 ? 1 + t : 200 - t);
        }
    }

    private static CoilWorks greatest(String path) {
        CoilWorks x = new CoilWorks();
        for (int p = 0; p < 7; p++) {
            x.gap();
            x.gapAt(p, 0, 200);
            x.magnet(p, 5000);
            for (int w = 0; w < 4; w++) x.turns(w, p, 50);
        }
        for (int w = 0; w < 4; w++) x.current(w, 100);
        write(x, path);
        return x;
    }

    private static void greatestFlows() {
        sentence(13, "it carries a number (1 .. 200; 10 at first) for each push");
        for (String path : new String[] {"a|b|c|d|e|f|g", "a-b-c-d-e-f-g"}) {
            CoilWorks x = greatest(path);
            for (int p = 0; p < 7; p += 3) {
                dueFraction("the greatest flow", x, x.flow(p), 5000000, 1);
                dueFraction("its push", x, x.over(p), 25000, 1);
            }
        }
        CoilWorks y = greatest("a-b-c-d-e-f-g");
        y.gapAt(3, 0, 1);
        // 7 times 25000 by (1 and 6 by 200).
        dueFraction("the greatest push", y, y.over(3), 35000000, 206);
        CoilWorks z = gaps(2, "a-b");
        carry(z, 0, 1);
        carry(z, 1, 1);
        z.magnet(0, 1);
        dueFraction("the least", z, z.over(1), 1, 2);
    }

    /** Gaps alone: behind one another what they take of a push goes together, by 1 and what they carry. */
    private static void behindAndBeside() {
        sentence(13, "PIECES one behind the other have the same FLOW, ROADS side by side have their FLOWS together");
        int[] carried = {199, 197, 193, 191, 181, 179, 173};
        BigInteger all = BigInteger.ONE;
        BigInteger others = BigInteger.ZERO;
        for (int v : carried) all = all.multiply(BigInteger.valueOf(v));
        for (int v : carried) others = others.add(all.divide(BigInteger.valueOf(v)));
        for (int sign = -1; sign <= 1; sign += 2) {
            CoilWorks x = gaps(7, "a-b-c-d-e-f-g");
            for (int p = 0; p < 7; p++) {
                x.gapAt(p, 0, carried[p]);
                x.magnet(p, sign * (4999 - p));
            }
            BigInteger source = BigInteger.valueOf(sign * (7 * 4999 - 21));
            for (int p = 0; p < 7; p++) {
                dueFraction("seven behind one another", x, x.flow(p), source.multiply(all), others);
                BigInteger below = others.multiply(BigInteger.valueOf(carried[p]));
                dueFraction("over", x, x.over(p), source.multiply(all), below);
            }
        }
        // a in front of six that are side by side: 1 by 1 and 1 by 12.
        CoilWorks y = gaps(7, "a-(b|c|d|e|f|g)");
        for (int p = 0; p < 7; p++) y.gapAt(p, 0, p == 0 ? 1 : 2);
        y.magnet(0, 13);
        dueFraction("six side by side have it together", y, y.flow(0), 12, 1);
        for (int p = 1; p < 7; p++) {
            dueFraction("one of them", y, y.flow(p), 2, 1);
            dueFraction("DROPS side by side alike", y, y.over(p), 1, 1);
        }
        // A source in one of two side by side drives the other the other way.
        CoilWorks z = gaps(3, "c-(a|b)");
        carry(z, 2, 1);
        z.magnet(0, 21);
        dueFraction("c", z, z.flow(2), 10, 1);
        dueFraction("a", z, z.flow(0), 110, 1);
        dueFraction("b", z, z.flow(1), -100, 1);
        z.gapAt(2, 0, 200);
        dueFraction("c, nearly all of it", z, z.over(2), 210, 220);
    }

    private static void deepPaths() {
        sentence(13, "END: a letter of a PIECE that is there, or ( PATH )");
        CoilWorks x = gaps(7, "a-(b|(c-(d|(e-(f|(g))))))");
        x.magnet(0, 8);
        // Back from g, with its push as 1: f 1, e 2, d 3, c 5, b 8, a 13; together a and b are the source.
        dueFraction("flow a", x, x.flow(0), 8 * 10 * 13, 21);
        dueFraction("over g", x, x.over(6), 8, 21);
        CoilWorks y = gaps(7, "((((((((a))))))))-((((((((b))))))))");
        y.magnet(1, 3);
        dueFraction("8 open, twice", y, y.over(0), 3, 2);
        CoilWorks z = gaps(7, "a|b-c");
        z.magnet(1, 4);
        dueFraction("- is nearer than |", z, z.over(2), 2, 1);
        dueFraction("a by itself", z, z.over(0), 0, 1);
        write(z, "(a|b)-c");
        dueFraction("( makes it nearer", z, z.over(2), 4, 3);
        write(z, "c-b|a");
        dueFraction("- is nearer than | behind it", z, z.over(2), 2, 1);
        dueFraction("a by itself", z, z.over(0), 0, 1);
        write(z, "d|c-b-e|a");
        dueFraction("three behind one another", z, z.over(2), 4, 3);
        dueFraction("a by itself", z, z.over(0), 0, 1);
        write(z, "c-(b-d|a)-e|f-g");
        // b's push drives a, beside c and e: 2 by 3 of what one gap takes; with b and d 8 by 3.
        dueFraction("with a path in it", z, z.over(2), 1, 2);
        dueFraction("with a path in it", z, z.over(0), -1, 1);
        dueFraction("others", z, z.over(6), 0, 1);
    }

    // ---- promise 15

    private static void refusedParts() {
        sentence(15, "THE PART. BAD; NO");
        beyondPieces("part(v)", (x, v) -> x.part(v), BAD);
        FAULTY.refuses("part", x -> x.part(0), NO);
        FAULTY.refuses("part, bad as well", x -> x.part(7), BAD);
        NEW.refuses("part, bad as well", x -> x.part(0), BAD);
    }

    private static void parts() {
        sentence(15, "0, 1, 2: IRON with |x| no more than X1, X2, beyond; of GAPS 0");
        int[][] ends = {{1, 2}, {1, 4999}, {4998, 4999}, {60, 70}};
        for (int[] end : ends) {
            CoilWorks x = new CoilWorks();
            x.gap();
            x.iron(200, end[0], 100, end[1], 1);
            x.iron(200, end[0], 200, end[1], 200);
            write(x, "b|a|c");
            x.magnet(0, 5000);
            for (int sign = -1; sign <= 1; sign += 2) {
                int[] pushes = {0, end[0], end[0] + 1, end[1], end[1] + 1, 5000};
                for (int push : pushes) {
                    int part = push <= end[0] ? 0 : push <= end[1] ? 1 : 2;
                    x.magnet(1, sign * push);
                    x.magnet(2, sign * push);
                    due("part at " + push, x.part(1), part);
                    due("part of straight iron", x.part(2), part);
                    due("part of a gap", x.part(0), 0);
                }
            }
        }
        // The push is 200 and e: 1200 and e is 10 (140 less e) and 20 (73 less e), so that e is 1660 by 31.
        SMALL.refuses("asking changes nothing", x -> x.part(0), 2);
    }

    // ---- promises 16, 17

    private static void linked() {
        sentence(16, "LINKED of a WINDING is THE FRACTION: its sign. BAD: -10; NO: -20");
        beyond("linked(v)", 0, 3, (x, v) -> x.linked(v), BAD_FRACTION);
        FAULTY.refuses("linked", x -> x.linked(3), NO_FRACTION);
        FAULTY.refuses("linked, bad as well", x -> x.linked(4), BAD_FRACTION);
        NEW.refuses("linked", x -> x.linked(0), NO_FRACTION);
        sentence(16, "TURNS times FLOWS together");
        CoilWorks x = gaps(7, "a|b|c|d|e|f");
        for (int p = 0; p < 7; p++) {
            x.magnet(p, p - 2);
            x.turns(3, p, p == 6 ? 50 : 7 - p * p);
        }
        dueFraction("one that goes round nothing", x, x.linked(0), 0, 1);
        // -2 * 7 - 6 + 0 - 2 - 2 * 9 - 3 * 18, ten times.
        dueFraction("the last, with a piece that is left out", x, x.linked(3), -940, 1);
        CoilWorks y = greatest("a|b|c|d|e|f|g");
        dueFraction("the greatest", y, y.linked(0), 7L * 50 * 5000000, 1);
        for (int p = 0; p < 7; p++) y.magnet(p, -5000);
        for (int w = 0; w < 4; w++) y.current(w, -100);
        dueFraction("the least", y, y.linked(3), -7L * 50 * 5000000, 1);
    }

    private static void each() {
        sentence(17, "EACH OTHER is THE FRACTION: its sign. BAD: -10; NO: -20");
        beyond("each(v, 0)", 0, 3, (x, v) -> x.each(v, 0), BAD_FRACTION);
        beyond("each(0, v)", 0, 3, (x, v) -> x.each(0, v), BAD_FRACTION);
        FAULTY.refuses("each", x -> x.each(3, 3), NO_FRACTION);
        FAULTY.refuses("each, bad as well", x -> x.each(0, 4), BAD_FRACTION);
        sentence(17, "how much more LINKED of the first is with 1 more CURRENT in the second");
        CoilWorks x = new CoilWorks();
        x.iron(5, 10, 3, 30, 1);
        write(x, "a");
        x.turns(0, 0, 10);
        x.turns(1, 0, -1);
        // By tens of the push: 50, 80, 110, 120: it goes over the bends, not along the part that is at hand.
        int[][] rows = {{-4, 10}, {-3, 30}, {-2, 30}, {-1, 50}, {0, 50}, {1, 30}, {2, 30}, {3, 10}};
        for (int[] row : rows) {
            x.current(0, row[0]);
            dueFraction("each(0, 0) at " + row[0], x, x.each(0, 0), 10 * row[1], 1);
            dueFraction("each(1, 0) at " + row[0], x, x.each(1, 0), -row[1], 1);
            due("the CURRENT is as it was", x.source(0), 10 * row[0]);
        }
        x.current(0, 1);
        dueFraction("each(0, 1): one less push", x, x.each(0, 1), -50, 1);
        dueFraction("each(2, 0): nothing", x, x.each(2, 0), 0, 1);
        dueFraction("each(0, 2): nothing", x, x.each(0, 2), 0, 1);
        dueFraction("each(3, 3): nothing", x, x.each(3, 3), 0, 1);
        long was = x.digest();
        x.each(1, 1);
        due("it changes nothing", x.digest(), was);
    }

    private static void eachAtTheMost() {
        sentence(17, "with 1 more CURRENT in the second");
        CoilWorks x = new CoilWorks();
        x.iron(5, 100, 3, 200, 1);
        write(x, "a");
        x.turns(2, 0, 1);
        x.current(2, 100);
        dueFraction("at 100 it is 101", x, x.each(2, 2), 3, 1);
        due("the CURRENT is as it was", x.source(0), 100);
        x.current(2, -100);
        dueFraction("at -100 it is -99", x, x.each(2, 2), 5, 1);
        due("the CURRENT is as it was", x.source(0), -100);
        x.turns(2, 0, 50);
        x.current(2, 100);
        dueFraction("50 TURNS", x, x.each(2, 2), 2500, 1);
    }

    // ---- promises 18, 19

    private static void stored() {
        sentence(18, "STORED is THE FRACTION: its sign. NO: -20");
        FAULTY.refuses("stored", CoilWorks::stored, NO_FRACTION);
        NEW.refuses("stored", CoilWorks::stored, NO_FRACTION);
        sentence(18, "never below 0");
        CoilWorks x = gaps(3, "a|b");
        dueFraction("nothing", x, x.stored(), 0, 1);
        x.magnet(2, 4000);
        sentence(18, "over PIECES of THE PATH");
        dueFraction("a piece that is left out", x, x.stored(), 0, 1);
        x.magnet(0, -1);
        dueFraction("a half of 10", x, x.stored(), 5, 1);
        x.magnet(1, 1);
        dueFraction("both", x, x.stored(), 10, 1);
        x.gapAt(1, 0, 1);
        dueFraction("a half more", x, x.stored(), 11, 2);
        x.turn(1);
        dueFraction("at the next TURN", x, x.stored(), 10, 1);
        CoilWorks y = greatest("a|b|c|d|e|f|g");
        dueFraction("the greatest", y, y.stored(), 437500000000L, 1);
    }

    private static void areas() {
        sentence(18, "the area under what it carries from 0 to x");
        // Of 6, 3, 4, 10, 2 by pushes: 3 x x up to 27, then 18 (x - 3) and 2 (x - 3)^2 up to 251, then by 46 and 1.
        int[][] rows = {{0, 0}, {1, 3}, {3, 27}, {4, 47}, {10, 251}, {11, 298}, {12, 347}};
        for (int[] row : rows) {
            for (int sign = -1; sign <= 1; sign += 2) {
                CoilWorks x = new CoilWorks();
                x.iron(6, 3, 4, 10, 2);
                write(x, "a");
                x.magnet(0, sign * row[0]);
                dueFraction("stored at " + sign * row[0], x, x.stored(), row[1], 1);
            }
        }
        // At the bends of 10, 100, 2, 200, 1 behind a gap that carries 1: over 100, 301 by 3, 200, 401 by 2.
        long[][] bends = {{1100, 2 * 50000 + 1000000, 2}, {1101, 9 * 100000 + 6000 + 2 + 3002 * 3002, 18},
            {1400, 2 * 160000 + 1200 * 1200, 2}, {1401, 8 * 160000 + 4 * 1200 + 1 + 2401 * 2401, 8}};
        for (long[] row : bends) {
            CoilWorks x = new CoilWorks();
            x.iron(10, 100, 2, 200, 1);
            x.gap();
            carry(x, 1, 1);
            x.magnet(0, (int) row[0]);
            write(x, "a-b");
            dueFraction("stored by a source of " + row[0], x, x.stored(), row[1], row[2]);
        }
    }

    private static void push() {
        sentence(19, "PUSH of a TURN is THE FRACTION: its sign. BAD: -10; NO: -20");
        beyond("push(v)", 0, 23, (x, v) -> x.push(v), BAD_FRACTION);
        FAULTY.refuses("push", x -> x.push(23), NO_FRACTION);
        FAULTY.refuses("push, bad as well", x -> x.push(24), BAD_FRACTION);
        NEW.refuses("push", x -> x.push(0), NO_FRACTION);
        sentence(19, "STORED at the next TURN less STORED at it (all else alike)");
        CoilWorks x = gaps(1, "a");
        x.magnet(0, 1);
        for (int t = 0; t < 24; t++) x.gapAt(0, t, 1 + t * t % 29);
        x.turn(7);
        for (int t = 0; t < 23; t++) {
            int more = (t + 1) * (t + 1) % 29 - t * t % 29;
            dueFraction("push(" + t + ")", x, x.push(t), more, 2);
        }
        sentence(19, "0 behind 23");
        dueFraction("push(23)", x, x.push(23), -(23 * 23 % 29), 2);
        due("the TURN is as it was", x.turn(0), 7);
        dueFraction("push(23) at another TURN", x, x.push(23), -(23 * 23 % 29), 2);
        CoilWorks y = greatest("a|b|c|d|e|f|g");
        for (int p = 0; p < 7; p++) y.gapAt(p, 23, 1);
        dueFraction("the greatest", y, y.push(23), 437500000000L / 200 * 199, 1);
        for (int p = 0; p < 7; p++) y.gapAt(p, 1, 1);
        dueFraction("the least", y, y.push(0), -437500000000L / 200 * 199, 1);
    }

    // ---- promise 20

    private static CoilWorks ring(int... tops) {
        CoilWorks x = gaps(1, "a");
        x.magnet(0, 2);
        for (int i = 0; i < tops.length; i += 2) x.gapAt(0, tops[i], tops[i + 1]);
        return x;
    }

    private static void dueStill(CoilWorks x, int bits, int staying) {
        due("still(0)", x.still(0), bits);
        due("still(1)", x.still(1), staying);
    }

    private static void still() {
        sentence(20, "STILL TURNS as bits (what = 0), those that STAY (1). BAD; NO");
        beyond("still(v)", 0, 1, (x, v) -> x.still(v), BAD);
        FAULTY.refuses("still", x -> x.still(0), NO);
        FAULTY.refuses("still", x -> x.still(1), NO);
        FAULTY.refuses("still, bad as well", x -> x.still(2), BAD);
        NEW.refuses("still", x -> x.still(0), NO);
        int all = (1 << 24) - 1;
        sentence(20, "STILL: a TURN where PUSH is 0 or less, and that of the TURN ahead of it 0 or more");
        dueStill(gaps(1, "a"), all, 0);
        dueStill(ring(), all, 0);
        // A dale: the turn that it falls from is still, the next is not, the one behind is again.
        dueStill(ring(5, 9), all & ~(1 << 5), 0);
        dueStill(ring(5, 9, 6, 9), all & ~(1 << 5 | 1 << 6), 0);
        sentence(20, "0 behind 23");
        dueStill(ring(0, 9), all & ~1, 0);
        dueStill(ring(23, 9), all & ~(1 << 23), 0);
    }

    private static void stays() {
        int all = (1 << 24) - 1;
        sentence(20, "it STAYS, if it is below 0 and the other one above 0");
        for (int t = 1; t < 23; t++) dueStill(ring(t, 11), all & ~(1 << t - 1 | 1 << t + 1), 1 << t);
        sentence(20, "one behind the other, 0 behind 23");
        dueStill(ring(0, 11), all & ~(1 << 23 | 1 << 1), 1);
        dueStill(ring(23, 11), all & ~(1 << 22 | 1), 1 << 23);
        sentence(20, "if it is below 0 and the other one above 0");
        // Two alike on the top: neither stays, as each has one push that is 0.
        dueStill(ring(5, 11, 6, 11), all & ~(1 << 4 | 1 << 7), 0);
        dueStill(ring(23, 11, 0, 11), all & ~(1 << 22 | 1 << 1), 0);
        // Up and up, down and down.
        dueStill(ring(5, 11, 6, 12, 7, 11), all & ~(1 << 4 | 1 << 5 | 1 << 7 | 1 << 8), 1 << 6);
        dueStill(ring(0, 200, 12, 200), all & ~(1 << 23 | 1 << 1 | 1 << 11 | 1 << 13), 1 | 1 << 12);
        CoilWorks x = ring(3, 200);
        x.turn(9);
        dueFraction("flow", x, x.flow(0), 20, 1);
        long was = x.digest();
        dueStill(x, all & ~(1 << 2 | 1 << 4), 1 << 3);
        due("asking changes nothing", x.digest(), was);
        dueFraction("nor THE FRACTION", x, 1, 20, 1);
        // As small as a push can be: 1 by 2.
        CoilWorks y = ring(8, 11);
        dueStill(y, all & ~(1 << 7 | 1 << 9), 1 << 8);
        y.gapAt(0, 8, 10);
        dueStill(y, all, 0);
        y.gapAt(0, 8, 11);
        y.magnet(0, 1);
        dueStill(y, all & ~(1 << 7 | 1 << 9), 1 << 8);
        y.magnet(0, 0);
        dueStill(y, all, 0);
        // Seven pieces, of which one alone changes with the TURN; iron changes with none.
        for (int one = 0; one < 7; one++) {
            CoilWorks z = new CoilWorks();
            for (int p = 0; p < 7; p++) {
                if (p == one || p == (one + 3) % 7) z.gap();
                else z.iron(9, 2, 7, 3, 5);
                z.magnet(p, 5);
            }
            write(z, "a|b|c|d|e|f|g");
            dueStill(z, all, 0);
            z.gapAt(one, 16, 9);
            z.gapAt(one, 17, 11);
            dueStill(z, all & ~(1 << 16 | 1 << 18), 1 << 17);
        }
    }

    // ---- promises 21 to 23

    private static void limbs() {
        sentence(21, "How many limbs above (0), below (1). BAD");
        beyond("limbs(v)", 0, 1, (x, v) -> x.limbs(v), BAD);
        sentence(22, "Limb i. NONE: not so many. BAD: i below 0, too");
        beyond("limb(v, 0)", 0, 1, (x, v) -> x.limb(v, 0), BAD);
        everywhere("limb(0, -1)", x -> x.limb(0, -1), BAD);
        everywhere("limb(1, -1)", x -> x.limb(1, -1), BAD);
        everywhere("limb(1, least)", x -> x.limb(1, LOWEST), BAD);
        everywhere("limb(2, -1)", x -> x.limb(2, -1), BAD);
        everywhere("limb(0, most)", x -> x.limb(0, HIGHEST), NONE);
        everywhere("limb(1, most)", x -> x.limb(1, HIGHEST), NONE);
        CoilWorks x = new CoilWorks();
        due("limbs of 0", x.limbs(0), 0);
        due("limb 0 of 0", x.limb(0, 0), NONE);
        due("limbs of 1", x.limbs(1), 1);
        due("limb 0 of 1", x.limb(1, 0), 1);
        due("limb 1 of 1", x.limb(1, 1), NONE);
    }

    /** Side by side, so that what each stores is a half of what it carries by the square of its magnet. */
    private static CoilWorks squares(int... numbers) {
        CoilWorks x = gaps(numbers.length / 2, "a|b|c|d".substring(0, numbers.length - 1));
        for (int p = 0; p < numbers.length / 2; p++) {
            x.gapAt(p, 0, numbers[2 * p]);
            x.magnet(p, numbers[2 * p + 1]);
        }
        return x;
    }

    private static void limbsOfGreatNumbers() {
        sentence(21, "limbs are digits to the base 1073741824, lowest first");
        CoilWorks x = squares(128, 4096);
        due("stored", x.stored(), 1);
        due("the base has two", x.limbs(0), 2);
        due("the lowest", x.limb(0, 0), 0);
        due("the next", x.limb(0, 1), 1);
        due("no more", x.limb(0, 2), NONE);
        due("cut down", x.floor(), 1073741824);
        CoilWorks y = squares(200, 3276, 2, 724, 94, 1);
        due("stored", y.stored(), 1);
        due("one less has one", y.limbs(0), 1);
        due("the lowest", y.limb(0, 0), 1073741823);
        due("no more", y.limb(0, 1), NONE);
        CoilWorks z = squares(128, 4096, 2, 1);
        dueFraction("one more", z, z.stored(), 1073741825, 1);
        z.gapAt(0, 1, 1);
        due("push", z.push(0), -1);
        due("below 0 the limbs are those of the number without its sign", z.limb(0, 0), (127L << 23) - 4);
        dueFraction("push", z, -1, -(127L << 23) + 4, 1);
        CoilWorks g = squares(128, 2048, 128, 2048, 128, 2048, 128, 2048);
        dueFraction("by four parts", g, g.stored(), 1L << 30, 1);
        // Many limbs: what seven behind one another store at two turns has two great numbers below.
        CoilWorks w = gaps(7, "a-b-c-d-e-f-g");
        BigInteger[] stored = new BigInteger[4];
        for (int t = 0; t < 2; t++) {
            BigInteger all = BigInteger.ONE;
            BigInteger others = BigInteger.ZERO;
            int[] carried = t == 0 ? new int[] {199, 197, 193, 191, 181, 179, 173} : new int[] {167, 163, 157, 151, 149, 139, 137};
            for (int p = 0; p < 7; p++) {
                w.gapAt(p, t, carried[p]);
                w.magnet(p, -5000 + p);
                all = all.multiply(BigInteger.valueOf(carried[p]));
            }
            for (int v : carried) others = others.add(all.divide(BigInteger.valueOf(v)));
            stored[2 * t] = all.multiply(BigInteger.valueOf(35000 - 21).pow(2));
            stored[2 * t + 1] = others.add(others);
        }
        dueFraction("stored", w, w.stored(), stored[0], stored[1]);
        BigInteger above = stored[2].multiply(stored[1]).subtract(stored[0].multiply(stored[3]));
        dueFraction("push", w, w.push(0), above, stored[1].multiply(stored[3]));
    }

    private static void lowestTerms() {
        sentence(13, "FRACTIONS are put in THE FRACTION, lowest terms, below above 0");
        CoilWorks x = gaps(2, "a-b");
        for (int source = -6; source <= 6; source++) {
            carry(x, 0, 20);
            x.magnet(0, source);
            // 20 by 3 of each: lowest terms where the source is a number of threes.
            due("flow", x.flow(0), Integer.signum(source));
            due("above", x.limb(0, 0), source == 0 ? NONE : source % 3 == 0 ? Math.abs(source) / 3 * 20 : Math.abs(source) * 20);
            due("below", x.limb(1, 0), source % 3 == 0 ? 1 : 3);
        }
        CoilWorks y = gaps(1, "a");
        y.magnet(0, 7);
        due("flow", y.flow(0), 1);
        y.magnet(0, 0);
        due("0", y.flow(0), 0);
        sentence(21, "lowest terms");
        due("0 has no limbs", y.limbs(0), 0);
        due("0 is by 1", y.limb(1, 0), 1);
        due("0 is by 1", y.limbs(1), 1);
    }

    private static void cutDown() {
        sentence(23, "THE FRACTION cut down to a whole number");
        CoilWorks x = gaps(2, "a-b");
        carry(x, 0, 1);
        carry(x, 1, 2);
        for (int source = -7; source <= 7; source++) {
            x.magnet(0, source);
            due("over b", x.over(1), Integer.signum(source));
            due(source + " thirds", x.floor(), Math.floorDiv(source, 3));
        }
        due("asking again", x.floor(), 2);
        // No machine stores more than 437500000000 (each piece the most that its own source gives), so that
        // -1000000000000 .. 1000000000000 is not left: what is told is the number itself.
        sentence(23, "brought to -1000000000000 .. 1000000000000");
        CoilWorks y = greatest("a|b|c|d|e|f|g");
        y.stored();
        due("the greatest", y.floor(), 437500000000L);
        for (int p = 0; p < 7; p++) y.gapAt(p, 1, 1);
        y.push(0);
        due("the least", y.floor(), -435312500000L);
        for (int p = 0; p < 7; p++) y.gapAt(p, 2, 2);
        y.push(1);
        due("the next", y.floor(), 437500000000L / 200);
    }
}
