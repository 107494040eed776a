/** Promises 24 to 27: each sentence that names a bound, at the bound and one step beyond it. */
public final class CoilWorksBoundsOfSeen extends Bench {
    private static final long FARTHEST = 1000000000000L;

    public static void main(String[] args) {
        refusedSights();
        rows();
        forgetting();
        refusedFits();
        nothingSeen();
        nothingWrong();
        openWindings();
        shortedWindings();
        lostMagnets();
        allOfThem();
        cutDown();
        byTurn();
        asTheyAreNow();
        refusedGrades();
        numbersOfGrades();
        gradesThatFit();
        gradesAboveS2();
        end("bounds of what was seen");
    }

    /** Gaps that carry 1 at TURN 0, each a ROAD by itself: its FLOW is its SOURCE. */
    private static CoilWorks roads(int many) {
        CoilWorks x = new CoilWorks();
        for (int p = 0; p < many; p++) {
            x.gap();
            x.gapAt(p, 0, 1);
        }
        write(x, "a|b|c|d|e|f|g".substring(0, 2 * many - 1));
        return x;
    }

    // ---- promises 24, 25

    private static void refusedSights() {
        sentence(24, "a TURN, a PIECE, its FLOW");
        beyond("see(v, 0, 0)", 0, 23, (x, v) -> x.see(v, 0, 0), BAD);
        beyondPieces("see(0, v, 0)", (x, v) -> x.see(0, v, 0), BAD);
        sentence(24, "BAD: a FLOW beyond 1000000000000, too");
        long[] flows = {FARTHEST + 1, -FARTHEST - 1, Long.MAX_VALUE, Long.MIN_VALUE};
        for (long flow : flows) everywhere("see(0, 0, " + flow + ")", x -> x.see(0, 0, flow), BAD);
        CoilWorks x = roads(2);
        due("the greatest", x.see(0, 0, FARTHEST), 1);
        due("the least", x.see(23, 1, -FARTHEST), 2);
        due("one less", x.see(0, 1, FARTHEST - 1), 3);
        due("beyond what an int holds", x.see(0, 1, 1L << 32), 4);
        due("none of them is so", x.fits(), 0);
        x.forget();
        x.see(0, 0, 1L << 32);
        due("2^32 is not 0", x.fits(), 0);
    }

    private static void rows() {
        sentence(24, "SEEN: rows, 6 at most");
        CoilWorks x = roads(2);
        for (int i = 0; i < 6; i++) {
            due("count(2)", x.count(2), i);
            due("see", x.see(4 * i, i % 2, 0), i + 1);
        }
        sentence(24, "SEEN: how many. BAD: a FLOW beyond 1000000000000, too; FULL: 6");
        due("the 7th", x.see(0, 0, 0), FULL);
        due("the 7th, bad as well", x.see(24, 0, 0), BAD);
        due("the 7th, bad as well", x.see(0, 2, 0), BAD);
        due("the 7th, bad as well", x.see(0, 0, FARTHEST + 1), BAD);
        due("count(2)", x.count(2), 6);
        FULLY.refuses("see", y -> y.see(0, 0, 0), FULL);
        FAULTY.refuses("see", y -> y.see(23, 6, -FARTHEST), FULL);
        due("the path may have a fault, and a piece may be left out", FAULTY.make().forget(), 6);
        CoilWorks y = new CoilWorks();
        y.iron(3, 2, 2, 3, 1);
        due("see without a path", y.see(0, 0, 5), 1);
    }

    private static void forgetting() {
        sentence(25, "All SEEN goes: how many");
        CoilWorks x = roads(1);
        due("none", x.forget(), 0);
        x.see(0, 0, 99);
        due("it does not fit", x.fits(), 0);
        due("one", x.forget(), 1);
        due("count(2)", x.count(2), 0);
        due("nothing seen: all fits", x.fits(), 1023);
        for (int i = 0; i < 6; i++) due("see again", x.see(0, 0, 0), i + 1);
        due("full again", x.see(0, 0, 0), FULL);
        due("six", x.forget(), 6);
        due("none again", x.forget(), 0);
        due("room again", x.see(0, 0, 0), 1);
        due("just the new row counts", x.fits(), 1023);
    }

    // ---- promise 26

    private static void refusedFits() {
        sentence(26, "WHAT FITS, as bits. NO: FAULT");
        NEW.refuses("fits", CoilWorks::fits, NO);
        FAULTY.refuses("fits", CoilWorks::fits, NO);
        FULLY.refuses("asking changes nothing", CoilWorks::fits, 0);
        CoilWorks x = roads(1);
        write(x, "a-");
        due("too early", x.fits(), NO);
        write(x, "b");
        due("of no piece", x.fits(), NO);
        write(x, "a");
        due("no fault", x.fits(), 1023);
    }

    private static void nothingSeen() {
        sentence(26, "bits 9 .. 15: the PIECE's MAGNET is lost");
        for (int many = 1; many <= 7; many++) {
            due("nothing seen, " + many + " pieces", roads(many).fits(), 511 | (1 << many) - 1 << 9);
        }
    }

    private static void nothingWrong() {
        sentence(26, "bit 0: nothing is wrong");
        CoilWorks x = roads(7);
        for (int p = 0; p < 7; p++) x.magnet(p, 3 + p);
        for (int w = 0; w < 4; w++) {
            x.turns(w, 0, 1);
            x.current(w, 1 << 2 + w);
        }
        // Each fault has another flow of a: 3 and 4, 8, 16, 32.
        x.see(0, 0, 63);
        due("right: or what a does not see", x.fits(), 1 | 126 << 9);
        x.forget();
        x.see(0, 0, 62);
        due("one less", x.fits(), 0);
        x.forget();
        x.see(0, 0, 64);
        due("one more", x.fits(), 0);
        int[] flows = {59, 55, 47, 31, 61, 59, 55, 47, 60};
        int[] bits = {2 | 64, 4 | 128, 8 | 256, 16, 32, 2 | 64, 4 | 128, 8 | 256, 512};
        for (int i = 0; i < flows.length; i++) {
            x.forget();
            x.see(0, 0, flows[i]);
            due("with a flow of " + flows[i], x.fits(), bits[i]);
        }
    }

    /** Winding w goes round piece w alone, with the same CURRENT each. */
    private static CoilWorks windings(int current) {
        CoilWorks x = roads(4);
        for (int w = 0; w < 4; w++) {
            x.turns(w, w, 1);
            x.current(w, current);
        }
        return x;
    }

    private static void openWindings() {
        sentence(26, "bits 1 .. 4: WINDING 0 .. 3 is open (no CURRENT in it)");
        for (int w = 0; w < 4; w++) {
            CoilWorks x = windings(-9);
            for (int o = 0; o < 4; o++) x.see(0, o, o == w ? 0 : -9);
            due("open " + w, x.fits(), 2 << w);
            due("the CURRENTS are as they were", x.source(w), -9);
        }
    }

    private static void shortedWindings() {
        sentence(26, "bits 5 .. 8: it is shorted (half its CURRENT, cut toward 0)");
        int[][] halves = {{100, 50}, {99, 49}, {3, 1}, {2, 1}, {-2, -1}, {-3, -1}, {-99, -49}, {-100, -50}};
        for (int[] half : halves) {
            for (int w = 0; w < 4; w++) {
                CoilWorks x = windings(half[0]);
                for (int o = 0; o < 4; o++) x.see(0, o, half[o == w ? 1 : 0]);
                due("shorted " + w + " from " + half[0], x.fits(), 32 << w);
                due("the CURRENTS are as they were", x.source(w), half[0]);
            }
        }
        for (int one = -1; one <= 1; one += 2) {
            CoilWorks x = windings(one);
            for (int o = 0; o < 4; o++) x.see(0, o, o == 2 ? 0 : one);
            due("half of 1 is 0, as if it were open", x.fits(), 8 | 128);
        }
        CoilWorks x = windings(0);
        for (int o = 0; o < 4; o++) x.see(0, o, 0);
        due("no CURRENT to lose, no MAGNET", x.fits(), (1 << 13) - 1);
    }

    private static void lostMagnets() {
        sentence(26, "bits 9 .. 15: the PIECE's MAGNET is lost (its push 0)");
        for (int lost = 0; lost < 7; lost++) {
            CoilWorks x = roads(7);
            for (int p = 0; p < 7; p++) x.magnet(p, p % 2 == 0 ? 5000 : -5000);
            for (int w = 0; w < 4; w++) x.turns(w, lost, 1);
            x.current(3, 77);
            x.see(0, lost, 77);
            due("lost " + lost, x.fits(), 512 << lost);
            due("the MAGNET is as it was", x.source(lost), (lost % 2 == 0 ? 5000 : -5000) + 77);
        }
        for (int push = -1; push <= 1; push++) {
            CoilWorks x = roads(2);
            x.magnet(0, push);
            x.see(0, 0, 0);
            due("a MAGNET of " + push, x.fits(), push == 0 ? 2047 : 512);
            x.forget();
            x.see(0, 0, push);
            due("it is there", x.fits(), push == 0 ? 2047 : 2047 - 512);
        }
        CoilWorks y = new CoilWorks();
        y.iron(9, 5, 3, 6, 1);
        y.magnet(0, 100);
        write(y, "a");
        y.see(0, 0, 0);
        due("of IRON, too", y.fits(), 512);
    }

    private static void allOfThem() {
        sentence(26, "WHAT FITS all of them");
        for (int wrong = 0; wrong < 6; wrong++) {
            for (int by = -1; by <= 1; by++) {
                CoilWorks x = roads(6);
                for (int p = 0; p < 6; p++) {
                    x.magnet(p, 20 + p);
                    x.see(0, p, 20 + p + (p == wrong ? by : 0));
                }
                due("row " + wrong + " is wrong by " + by, x.fits(), by == 0 ? 511 : 0);
            }
        }
        CoilWorks x = roads(1);
        x.magnet(0, 4);
        x.see(0, 0, 4);
        x.see(0, 0, 0);
        due("with and without the MAGNET", x.fits(), 0);
        x.forget();
        x.see(0, 0, 0);
        x.see(0, 0, 0);
        due("the same twice", x.fits(), 512);
    }

    private static void cutDown() {
        sentence(26, "its FLOW (cut down to a whole number)");
        for (int source = -4; source <= 4; source++) {
            int down = Math.floorDiv(2 * source, 3);
            for (int by = -1; by <= 1; by++) {
                CoilWorks x = new CoilWorks();
                x.gap();
                x.gap();
                x.gapAt(0, 0, 1);
                x.gapAt(1, 0, 2);
                write(x, "a-b");
                x.turns(0, 0, 1);
                x.turns(0, 1, 1);
                x.turns(1, 1, -1);
                x.current(0, source);
                x.current(1, source);
                x.see(0, 1, down + by);
                due("two thirds of " + source + " as " + (down + by), x.fits() & 1, by == 0 ? 1 : 0);
            }
        }
    }

    private static void byTurn() {
        sentence(26, "SEEN: rows, 6 at most: a TURN");
        CoilWorks x = new CoilWorks();
        x.gap();
        x.magnet(0, 1);
        write(x, "a");
        for (int t = 0; t < 24; t++) x.gapAt(0, t, 100 + t);
        for (int t = 0; t < 24; t++) {
            x.turn((t + 7) % 24);
            x.see(t, 0, 100 + t);
            due("at TURN " + t, x.fits(), 511);
            x.forget();
            x.see(t, 0, 101 + t);
            due("one TURN later", x.fits(), 0);
            x.forget();
        }
        x.see(0, 0, 100);
        x.see(23, 0, 123);
        x.see(11, 0, 111);
        x.see(0, 0, 100);
        due("some TURNS together", x.fits(), 511);
        sentence(26, "PIECES not in THE PATH: x and FLOW 0");
        CoilWorks y = roads(2);
        write(y, "b");
        y.magnet(0, 9);
        y.see(0, 0, 0);
        due("0 of what is left out", y.fits(), 2047);
        y.forget();
        y.see(0, 0, 9);
        due("and no other number", y.fits(), 0);
        y.forget();
        y.see(0, 0, -1);
        due("and no other number", y.fits(), 0);
    }

    private static void asTheyAreNow() {
        sentence(26, "CURRENTS, MAGNETS as they are now");
        CoilWorks x = windings(10);
        x.magnet(0, 2);
        x.see(0, 0, 12);
        x.see(0, 1, 10);
        due("as they are", x.fits(), 1 | 8 | 16 | 128 | 256 | 14 << 9);
        x.current(1, 20);
        due("shorted now", x.fits(), 64);
        x.current(1, 9);
        due("nothing alone", x.fits(), 0);
        x.current(1, 10);
        x.magnet(0, 3);
        due("another MAGNET", x.fits(), 0);
        x.magnet(0, 0);
        x.current(0, 12);
        due("without the MAGNET", x.fits(), 1 | 8 | 16 | 128 | 256 | 15 << 9);
        x.gapAt(0, 0, 2);
        due("half the CURRENT in a gap of twice as much", x.fits(), 32);
        x.gapAt(0, 0, 3);
        due("another gap", x.fits(), 0);
    }

    // ---- promise 27

    private static CoilWorks iron(int s1, int s2, int s3, int magnet) {
        CoilWorks x = new CoilWorks();
        x.iron(s1, 10, s2, 20, s3);
        x.magnet(0, magnet);
        write(x, "a");
        return x;
    }

    private static void refusedGrades() {
        sentence(27, "BAD: also no IRON, from above to, above 30; NO");
        beyondPieces("grade(v, 1, 2, 0)", (x, v) -> x.grade(v, 1, 2, 0), BAD);
        for (int p = 1; p < 6; p += 2) {
            int piece = p;
            everywhere("grade of gap " + p, x -> x.grade(piece, 1, 2, 0), BAD);
        }
        beyond("grade(0, 1, 30, v)", 0, 1, (x, v) -> x.grade(0, 1, 30, v), BAD);
        beyond("grade(0, v, 30, 0)", 1, 30, (x, v) -> x.grade(0, v, 30, 0), BAD);
        beyond("grade(0, 171, v, 0)", 171, 200, (x, v) -> x.grade(0, 171, v, 0), BAD);
        everywhere("from above to", x -> x.grade(0, 50, 49, 0), BAD);
        everywhere("from above to", x -> x.grade(0, 200, 1, 1), BAD);
        everywhere("from 0", x -> x.grade(0, 0, 0, 1), BAD);
        everywhere("to 201", x -> x.grade(0, 201, 201, 1), BAD);
        everywhere("far apart", x -> x.grade(0, LOWEST, HIGHEST, 1), BAD);
        FAULTY.refuses("grade", x -> x.grade(0, 1, 30, 0), NO);
        FAULTY.refuses("grade", x -> x.grade(6, 200, 200, 1), NO);
        FAULTY.refuses("grade, bad as well", x -> x.grade(0, 1, 31, 0), BAD);
        FAULTY.refuses("grade, bad as well", x -> x.grade(1, 1, 30, 0), BAD);
        FULLY.refuses("asking changes nothing", x -> x.grade(0, 1, 30, 0), 0);
    }

    private static void numbersOfGrades() {
        sentence(27, "of S1 told from .. to (1 .. 200, 30 numbers at most");
        CoilWorks x = iron(200, 1, 1, 3);
        due("1 .. 30", x.grade(0, 1, 30, 0), 30);
        due("1 .. 31", x.grade(0, 1, 31, 0), BAD);
        due("the least of them", x.grade(0, 1, 30, 1), 1);
        due("171 .. 200", x.grade(0, 171, 200, 0), 30);
        due("170 .. 200", x.grade(0, 170, 200, 0), BAD);
        due("the least of them", x.grade(0, 171, 200, 1), 171);
        due("1 alone", x.grade(0, 1, 1, 0), 1);
        due("200 alone", x.grade(0, 200, 200, 0), 1);
        due("200 alone", x.grade(0, 200, 200, 1), 200);
        due("in the middle", x.grade(0, 90, 119, 0), 30);
        due("in the middle, one more", x.grade(0, 90, 120, 0), BAD);
        due("in the middle, one less", x.grade(0, 91, 119, 1), 91);
    }

    private static void gradesThatFit() {
        sentence(27, "those by which all SEEN fits: how many, the least");
        CoilWorks x = iron(77, 1, 1, 3);
        x.see(0, 0, 3 * 40);
        due("it", x.grade(0, 40, 40, 0), 1);
        due("its number", x.grade(0, 40, 40, 1), 40);
        due("at the upper end", x.grade(0, 11, 40, 1), 40);
        due("at the lower end", x.grade(0, 40, 69, 1), 40);
        due("just above", x.grade(0, 41, 70, 0), 0);
        due("just below", x.grade(0, 10, 39, 0), 0);
        sentence(27, "the least (1; NONE)");
        due("none", x.grade(0, 41, 70, 1), NONE);
        due("none", x.grade(0, 10, 39, 1), NONE);
        x.see(5, 0, 3 * 40);
        due("two rows", x.grade(0, 30, 50, 0), 1);
        x.see(5, 0, 3 * 40 + 1);
        due("three rows, the last wrong", x.grade(0, 30, 50, 0), 0);
        due("S1 is as it was", x.flow(0), 1);
        due("S1 is as it was", x.floor(), 3 * 77);
        // Behind a gap that carries 10 the flow is cut down: 1000 S by (10 and S) is 909 for 100, and 909, 910 alike.
        CoilWorks y = new CoilWorks();
        y.gap();
        y.iron(150, 5000, 1, 5001, 1);
        y.magnet(0, 100);
        write(y, "a-b");
        int[] many = new int[1000];
        for (int s = 100; s < 130; s++) many[1000 * s / (10 + s)]++;
        int least = 100;
        for (int flow = 909; flow <= 928; flow++) {
            y.forget();
            y.see(0, 1, flow);
            due("how many have the flow " + flow, y.grade(1, 100, 129, 0), many[flow]);
            due("the least of them", y.grade(1, 100, 129, 1), many[flow] == 0 ? NONE : least);
            least += many[flow];
        }
    }

    private static void gradesAboveS2() {
        sentence(27, "S2, S3 as they are, none above S1");
        CoilWorks x = iron(200, 20, 7, 3);
        due("1 .. 30", x.grade(0, 1, 30, 0), 11);
        due("the least", x.grade(0, 1, 30, 1), 20);
        due("S2 at the end", x.grade(0, 1, 20, 0), 1);
        due("S2 at the end", x.grade(0, 1, 20, 1), 20);
        due("below S2", x.grade(0, 1, 19, 0), 0);
        due("below S2", x.grade(0, 1, 19, 1), NONE);
        due("from S2 on", x.grade(0, 20, 49, 0), 30);
        due("behind S2", x.grade(0, 21, 50, 0), 30);
        x.see(0, 0, 3 * 19);
        due("one below S2 would fit", x.grade(0, 1, 30, 0), 0);
        // By a push of 25: 10 S1 and 10 times 20 and 5 times 7.
        x.magnet(0, 25);
        x.forget();
        x.see(0, 0, 10 * 20 + 200 + 35);
        due("S2 alike", x.grade(0, 1, 30, 1), 20);
        x.forget();
        x.see(0, 0, 10 * 33 + 200 + 35);
        due("S2, S3 as they are", x.grade(0, 20, 49, 1), 33);
        due("just it", x.grade(0, 20, 49, 0), 1);
        CoilWorks y = iron(200, 200, 200, 3);
        due("200 alone", y.grade(0, 171, 200, 0), 1);
        due("none up to 199", y.grade(0, 170, 199, 0), 0);
        CoilWorks z = iron(9, 2, 1, 3);
        z.gap();
        write(z, "b");
        due("left out: all fit", z.grade(0, 1, 30, 0), 29);
        z.see(0, 0, 27);
        due("left out: none", z.grade(0, 1, 30, 0), 0);
    }
}
