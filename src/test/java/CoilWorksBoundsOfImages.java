import java.util.ArrayList;
import java.util.List;
import java.util.function.Consumer;

/** Promises 43 to 46, and what the document tells of all calls: each bound, at it and one step beyond it. */
public final class CoilWorksBoundsOfImages extends Bench {
    private static final int MOST_CALLS = 512;

    public static void main(String[] args) {
        refusedImages();
        allThatIsTold();
        imagesApart();
        keptAgain();
        theFractionStays();
        goesOn();
        counts();
        digestOfNumbers();
        digestAtTheBounds();
        digestOfRows();
        constants();
        refusedForTwoReasons();
        manyTicks();
        manyRests();
        manyChanges();
        end("bounds of the images and of all calls");
    }

    // ---- promises 43, 44

    private static void refusedImages() {
        sentence(43, "IMAGES 0, 1");
        beyond("image(v)", 0, 1, (x, v) -> x.image(v), BAD);
        sentence(44, "It goes on from an IMAGE: 1. BAD; NO: none was kept");
        beyond("from(v)", 0, 1, (x, v) -> x.from(v), BAD);
        NEW.refuses("from(0), none kept", x -> x.from(0), NO);
        NEW.refuses("from(1), none kept", x -> x.from(1), NO);
        SMALL.refuses("from(1), none kept", x -> x.from(1), NO);
        CoilWorks x = new CoilWorks();
        due("kept", x.image(1), 1);
        due("the other is not", x.from(0), NO);
        due("this one is", x.from(1), 1);
        due("kept", x.image(0), 1);
        due("both", x.from(0), 1);
        due("both", x.from(1), 1);
        due("refused", x.image(2), BAD);
        due("refused", x.from(2), BAD);
        due("both", x.from(0), 1);
        due("and again", x.from(0), 1);
    }

    /** One change each of all that is told. */
    private static List<Consumer<CoilWorks>> changes() {
        List<Consumer<CoilWorks>> all = new ArrayList<>();
        all.add(x -> x.iron(9, 8, 7, 9, 6));
        all.add(CoilWorks::gap);
        for (int t = 0; t < 24; t += 23) {
            int turn = t;
            all.add(x -> x.gapAt(1, turn, 144));
        }
        for (int p = 0; p < 3; p++) {
            int piece = p;
            all.add(x -> x.magnet(piece, 1234));
            for (int w = 0; w < 4; w++) {
                int winding = w;
                all.add(x -> x.turns(winding, piece, 37));
            }
        }
        for (int w = 0; w < 4; w++) {
            int winding = w;
            all.add(x -> x.current(winding, -99));
        }
        all.add(x -> x.turn(11));
        all.add(x -> x.write('|'));
        all.add(CoilWorks::erase);
        all.add(x -> write(x, "b|c|a"));
        all.add(x -> x.see(5, 2, -1L << 35));
        all.add(CoilWorks::forget);
        all.add(x -> {
            x.forget();
            x.see(9, 0, 250);
            x.see(8, 2, 2);
        });
        for (int s = 6; s <= 24; s += 6) {
            int many = s;
            all.add(x -> x.slots(many));
        }
        all.add(x -> x.slots(9));
        for (int s = 0; s < 9; s++) {
            int slot = s;
            all.add(x -> x.side(slot, 2, -1));
            all.add(x -> x.side(slot, 0, 0));
        }
        all.add(x -> x.feed(77, 3, 70));
        all.add(x -> x.feed(7, 99, 70));
        all.add(x -> x.feed(7, 3, 7));
        all.add(x -> x.limits(1000, 800));
        all.add(x -> x.limits(900, 0));
        all.add(x -> x.run(1));
        all.add(x -> x.run(1000));
        for (int b = 0; b < 4; b++) {
            int body = b;
            all.add(x -> x.body(body, 77, 300, 2));
            all.add(x -> x.body(body, 12, 9999, 2));
            all.add(x -> x.body(body, 12, 300, 50));
            for (int o = 0; o < b; o++) {
                int other = o;
                all.add(x -> x.joint(body, other, 88));
            }
        }
        all.add(x -> x.warm(1));
        all.add(x -> x.warm(1000));
        return all;
    }

    private static void allThatIsTold() {
        sentence(43, "IMAGES 0, 1 keep all that is told but them and THE FRACTION");
        int number = 0;
        for (Consumer<CoilWorks> change : changes()) {
            CoilWorks untouched = SMALL.make();
            untouched.image(0);
            CoilWorks x = SMALL.make();
            due("image", x.image(0), 1);
            change.accept(x);
            due("from", x.from(0), 1);
            dueAlike("behind change " + number, x, untouched);
            CoilWorks y = SMALL.make();
            y.image(0);
            CoilWorks changed = SMALL.make();
            changed.image(0);
            change.accept(changed);
            y.image(1);
            change.accept(y);
            y.from(1);
            change.accept(y);
            dueAlike("changed anew, " + number, y, changed);
            number++;
        }
    }

    /** Two objects tell alike now and later on, but for their second images. */
    private static void dueAlike(String what, CoilWorks x, CoilWorks y) {
        due(what + ": digest", x.digest(), y.digest());
        due(what + ": fault", x.fault(), y.fault());
        due(what + ": fits", x.fits(), y.fits());
        for (int p = 0; p < 3; p++) {
            due(what + ": flow", x.flow(p), y.flow(p));
            due(what + ": flow cut down", x.floor(), y.floor());
        }
        due(what + ": even", x.even(1), y.even(1));
        for (int n = 1; n < 200; n += 49) {
            due(what + ": run", x.run(n), y.run(n));
            due(what + ": warm", x.warm(n), y.warm(n));
            for (int b = 1; b < 4; b++) due(what + ": warmth", x.warmth(b), y.warmth(b));
        }
        due(what + ": later digest", x.digest(), y.digest());
        due(what + ": from", x.from(0), y.from(0));
        due(what + ": digest from it", x.digest(), y.digest());
    }

    private static void imagesApart() {
        sentence(43, "IMAGES 0, 1");
        CoilWorks x = new CoilWorks();
        long empty = x.digest();
        x.image(0);
        x.gap();
        x.gapAt(0, 23, 7);
        long one = x.digest();
        x.image(1);
        x.gapAt(0, 23, 8);
        x.magnet(0, 3);
        for (int i = 0; i < 3; i++) {
            due("from 0", x.from(0), 1);
            due("what 0 keeps", x.digest(), empty);
            due("no piece", x.magnet(0, 3), BAD);
            x.turn(5);
            due("from 1", x.from(1), 1);
            due("what 1 keeps", x.digest(), one);
            due("its gap", x.gapAt(0, 23, 9), 7);
            x.see(1, 0, 5);
        }
        // Going on from one leaves the other, and itself.
        x.from(0);
        x.image(1);
        due("0 in 1 now", x.from(1), 1);
        due("0 in 1 now", x.digest(), empty);
    }

    private static void keptAgain() {
        sentence(43, "An IMAGE is kept: 1. BAD");
        CoilWorks x = new CoilWorks();
        for (int i = 0; i < 7; i++) {
            due("kept again", x.image(0), 1);
            x.gap();
            x.write('a');
            due("the last kept", x.from(0), 1);
            due("pieces", x.count(0), i);
            due("characters", x.count(1), i);
            x.gap();
            x.write('a');
        }
        for (int t = 0; t < 24; t++) x.gapAt(6, t, 200 - t);
        x.magnet(6, 5000);
        x.turns(3, 6, -50);
        long full = x.digest();
        due("kept with all that is full", x.image(1), 1);
        x.from(0);
        due("one less", x.count(0), 6);
        due("room for one", x.iron(4, 3, 3, 4, 2), 6);
        x.magnet(6, -5000);
        x.turns(3, 6, 50);
        long other = x.digest();
        x.image(0);
        x.from(1);
        due("full again", x.gap(), FULL);
        due("the last piece as it was", x.digest(), full);
        x.from(0);
        due("the other last piece", x.digest(), other);
        due("iron", x.gapAt(6, 0, 5), BAD);
    }

    private static void theFractionStays() {
        sentence(44, "THE FRACTION (it stays as it is)");
        CoilWorks x = new CoilWorks();
        due("image of a new one", x.image(0), 1);
        x.gap();
        x.gap();
        x.gapAt(0, 0, 1);
        x.gapAt(1, 0, 2);
        x.magnet(0, -7);
        write(x, "a-b");
        dueFraction("over", x, x.over(1), -7, 3);
        due("image", x.image(1), 1);
        dueFraction("behind image", x, -1, -7, 3);
        x.magnet(0, 5);
        dueFraction("over", x, x.over(1), 5, 3);
        due("from", x.from(1), 1);
        dueFraction("behind from", x, 1, 5, 3);
        due("from the new one", x.from(0), 1);
        dueFraction("behind from, no piece there", x, 1, 5, 3);
        due("flow", x.flow(0), BAD_FRACTION);
        dueFraction("behind a refused call", x, 1, 5, 3);
        x.from(1);
        dueFraction("as told in the image", x, x.over(1), -7, 3);
    }

    private static void goesOn() {
        sentence(44, "it goes on from one");
        CoilWorks x = FULLY.make();
        due("image 0 has the pieces alone", x.from(0), 1);
        due("pieces", x.count(0), 7);
        due("sources", x.source(6), 0);
        due("seen", x.count(2), 0);
        due("room for 6", x.see(0, 0, 0), 1);
        due("image 1 has 6 seen", x.from(1), 1);
        due("seen", x.count(2), 6);
        due("no room", x.see(0, 0, 0), FULL);
        due("TURN", x.turn(0), 23);
        due("S of 12", x.count(4), 12);
        due("no sides", x.count(5), 0);
        due("slot 12 is not there", x.side(12, 0, 1), BAD);
        for (int i = 0; i < 12; i++) due("the sides of the 24 are gone", x.star(i % 3, i, 0), 0);
        CoilWorks y = FULLY.make();
        y.image(0);
        y.slots(6);
        y.from(0);
        due("24 again", y.count(5), 24);
    }

    // ---- promises 45, 46

    private static void counts() {
        sentence(45, "How many: 0 PIECES, 1 characters, 2 SEEN, 3 the TURN, 4 S, 5 coil sides. BAD");
        beyond("count(v)", 0, 5, (x, v) -> x.count(v), BAD);
        int[] atFirst = {0, 0, 0, 0, 12, 0};
        int[] full = {7, 40, 6, 23, 24, 24};
        int[] small = {3, 7, 2, 2, 9, 3};
        CoilWorks x = new CoilWorks();
        CoilWorks y = FULLY.make();
        CoilWorks z = SMALL.make();
        for (int what = 0; what < 6; what++) {
            due("at first, count(" + what + ")", x.count(what), atFirst[what]);
            due("full, count(" + what + ")", y.count(what), full[what]);
            due("small, count(" + what + ")", z.count(what), small[what]);
        }
        SMALL.refuses("asking changes nothing", c -> c.count(4), 9);
    }

    private static long fold(long h, long... numbers) {
        long folded = h;
        for (long v : numbers) folded = 31 * folded + v;
        return folded;
    }

    private static long foldAlike(long h, int many, long v) {
        long folded = h;
        for (int i = 0; i < many; i++) folded = 31 * folded + v;
        return folded;
    }

    private static void digestOfNumbers() {
        sentence(46, "h = 337; then h = 31 h + v for each v");
        CoilWorks x = new CoilWorks();
        long h = fold(337, 0, 0, 0, 0, 12, 0);
        h = foldAlike(h, 4 + 12, 0);
        h = fold(h, 0, 1, 0, 0, 0, 0, 0, 0);
        due("of a new object", x.digest(), h);
        due("asked again", x.digest(), h);
        sentence(46, "of PIECES S1, X1, S2, X2, S3 (of a GAP 0, 0, 0, 0, 0), MAGNET, TURNS of WINDINGS; of GAPS what they carry by TURNS");
        x.gap();
        x.iron(9, 7, 6, 8, 5);
        x.gap();
        for (int t = 0; t < 24; t++) {
            x.gapAt(0, t, 1 + t);
            x.gapAt(2, t, 200 - t);
        }
        h = fold(337, 3, 0, 0, 0, 12, 0);
        for (int p = 0; p < 3; p++) {
            x.magnet(p, -2 - p);
            for (int w = 0; w < 4; w++) x.turns(w, p, 10 * p + w);
            h = p == 1 ? fold(h, 9, 7, 6, 8, 5) : fold(h, 0, 0, 0, 0, 0);
            h = fold(h, -2 - p, 10 * p, 10 * p + 1, 10 * p + 2, 10 * p + 3);
        }
        for (int t = 0; t < 24; t++) h = fold(h, 1 + t);
        for (int t = 0; t < 24; t++) h = fold(h, 200 - t);
        h = foldAlike(h, 4 + 12, 0);
        h = fold(h, 0, 1, 0, 0, 0, 0, 0, 0);
        due("of three pieces", x.digest(), h);
    }

    private static void digestAtTheBounds() {
        sentence(46, "CURRENTS; characters; of SEEN TURN, PIECE, FLOW; of SLOTS sign times (10 and phase) (0: none); ran(0) to ran(3); WARMTHS");
        CoilWorks x = new CoilWorks();
        for (int p = 0; p < 7; p++) x.iron(200, 9999, 200, 10000, 200);
        long h = fold(337, 7, 40, 6, 23, 24, 23);
        for (int p = 0; p < 7; p++) h = foldAlike(fold(h, 200, 9999, 200, 10000, 200), 5, 0);
        for (int w = 0; w < 4; w++) {
            x.current(w, 100 - 200 * (w % 2));
            h = fold(h, 100 - 200 * (w % 2));
        }
        for (int i = 0; i < 40; i++) {
            x.write(127 - i);
            h = fold(h, 127 - i);
        }
        for (int i = 0; i < 6; i++) {
            long flow = (i % 2 == 0 ? 1 : -1) * (1000000000000L - i);
            x.see(23 - i, i, flow);
            h = fold(h, 23 - i, i, flow);
        }
        x.turn(23);
        x.slots(24);
        for (int s = 0; s < 24; s++) {
            int sign = s == 20 ? 0 : s % 2 == 0 ? 1 : -1;
            x.side(s, s % 3, sign);
            h = fold(h, sign * (10 + s % 3));
        }
        x.feed(10000, 0, 1);
        x.limits(1000000, 0);
        x.run(1000);
        h = fold(h, 10000000, 0, 1, 1000);
        for (int b = 0; b < 4; b++) {
            x.body(b, 1, 1000 + b, 0);
            h = fold(h, 1000 + b);
        }
        x.warm(1);
        due("of all that is full", x.digest(), h);
    }

    /** What was emptied or taken away is not in it. */
    private static void digestOfRows() {
        sentence(46, "h = 31 h + v for each v");
        CoilWorks x = new CoilWorks();
        x.gap();
        long was = x.digest();
        x.write('a');
        due("one character more", x.digest() == was ? 1 : 0, 0);
        x.erase();
        due("erased", x.digest(), was);
        x.see(3, 0, 4);
        x.forget();
        due("forgotten", x.digest(), was);
        x.side(11, 2, 1);
        x.side(11, 2, 0);
        due("no side", x.digest(), was);
        x.slots(24);
        x.side(23, 1, 1);
        x.slots(12);
        due("12 slots again", x.digest(), was);
        x.magnet(0, 9);
        x.magnet(0, 0);
        x.turns(3, 0, 9);
        x.turns(3, 0, 0);
        x.current(3, 9);
        x.current(3, 0);
        x.gapAt(0, 9, 11);
        x.gapAt(0, 9, 10);
        x.turn(5);
        x.turn(0);
        due("all back", x.digest(), was);
        x.feed(5, 5, 5);
        x.limits(5, 5);
        x.body(1, 5, 5, 5);
        x.joint(1, 2, 5);
        due("what is not in it", x.digest(), was);
        x.flow(0);
        x.image(0);
        due("nor an IMAGE", x.digest(), was);
    }

    // ---- all calls

    private static void constants() {
        sentence(1, "public static final int NONE = -1, BAD = -2, NO = -3, FULL = -4");
        due("NONE", CoilWorks.NONE, NONE);
        due("BAD", CoilWorks.BAD, BAD);
        due("NO", CoilWorks.NO, NO);
        due("FULL", CoilWorks.FULL, FULL);
    }

    /** Each call that has two reasons, with both of them: the first one is told. */
    private static void refusedForTwoReasons() {
        sentence(44, "Refused, changing nothing, the first of: BAD -2 a number is not as told; NO -3 as told; FULL -4");
        FULLY.refuses("iron: BAD, FULL", x -> x.iron(1, 1, 1, 1, 1), BAD);
        FULLY.refuses("write: BAD, FULL", x -> x.write(128), BAD);
        FULLY.refuses("see: BAD, FULL", x -> x.see(24, 0, 0), BAD);
        FAULTY.refuses("flow: BAD, NO", x -> x.flow(7), BAD_FRACTION);
        FAULTY.refuses("over: BAD, NO", x -> x.over(7), BAD_FRACTION);
        FAULTY.refuses("part: BAD, NO", x -> x.part(7), BAD);
        FAULTY.refuses("linked: BAD, NO", x -> x.linked(4), BAD_FRACTION);
        FAULTY.refuses("each: BAD, NO", x -> x.each(4, 0), BAD_FRACTION);
        FAULTY.refuses("push: BAD, NO", x -> x.push(24), BAD_FRACTION);
        FAULTY.refuses("still: BAD, NO", x -> x.still(2), BAD);
        FAULTY.refuses("grade: BAD, NO", x -> x.grade(7, 1, 30, 0), BAD);
        NEW.refuses("from: BAD, NO", x -> x.from(2), BAD);
        // Of numbers that are not as told more than one.
        everywhere("gapAt", x -> x.gapAt(7, 24, 201), BAD);
        everywhere("turns", x -> x.turns(4, 7, 51), BAD);
        everywhere("current", x -> x.current(4, 101), BAD);
        everywhere("see", x -> x.see(24, 7, Long.MAX_VALUE), BAD);
        everywhere("grade", x -> x.grade(7, 0, 201, 2), BAD);
        everywhere("side", x -> x.side(24, 3, 2), BAD);
        everywhere("star", x -> x.star(3, 25, -1), BAD_STAR);
        everywhere("span", x -> x.span(25, -1), BAD);
        everywhere("feed", x -> x.feed(-1, -1, 0), BAD);
        everywhere("limits", x -> x.limits(-1, -1), BAD);
        everywhere("body", x -> x.body(4, 0, -1, -1), BAD);
        everywhere("joint", x -> x.joint(4, 4, 101), BAD);
        everywhere("first", x -> x.first(4, -1), BAD);
        everywhere("limb", x -> x.limb(2, -1), BAD);
    }

    private static void manyTicks() {
        sentence(37, "An object is used for at most 512 calls after it has been made");
        CoilWorks x = new CoilWorks();
        int calls = 0;
        due("limits", x.limits(0, 0), 1);
        for (calls++; calls < MOST_CALLS - 2; calls++) x.run(1000);
        due("ticks", x.ran(3), 509000);
        due("each tick another way", x.ran(2), 509000);
        CoilWorks y = new CoilWorks();
        due("body", y.body(3, 1000, 100000, 1), 1);
        for (calls = 1; calls < MOST_CALLS - 2; calls++) y.warm(1000);
        due("as warm as it gets", y.warmth(3), 99001);
        due("the last call", y.first(3, 99000), 1);
    }

    private static void manyRests() {
        sentence(20, "An object is used for at most 512 calls after it has been made");
        CoilWorks x = FULLY.make();
        int bits = x.still(0);
        int fits = x.fits();
        for (int i = 0; i < 120; i++) {
            due("still", x.still(0), bits);
            due("fits", x.fits(), fits);
        }
        CoilWorks y = new CoilWorks();
        y.gap();
        y.magnet(0, 2);
        y.write('a');
        for (int calls = 3; calls < MOST_CALLS - 1; calls++) {
            due("push", y.push(calls % 24), 0);
        }
        due("the last call", y.stored(), 1);
    }

    private static void manyChanges() {
        sentence(10, "An object is used for at most 512 calls after it has been made");
        CoilWorks x = new CoilWorks();
        for (int round = 0; round < 12; round++) {
            for (int i = 0; i < 40; i++) due("write", x.write(i), i + 1);
            due("full", x.write(0), FULL);
            due("erase", x.erase(), 40);
        }
        CoilWorks y = new CoilWorks();
        y.gap();
        for (int round = 0; round < 60; round++) {
            for (int i = 0; i < 6; i++) due("see", y.see(i, 0, i), i + 1);
            due("full", y.see(0, 0, 0), FULL);
            due("forget", y.forget(), 6);
        }
        CoilWorks z = new CoilWorks();
        for (int round = 0; round < 100; round++) {
            due("image", z.image(round % 2), 1);
            due("from", z.from(round % 2), 1);
            due("gap", z.gap(), round % 7);
            if (round % 7 == 6) due("full", z.gap(), FULL);
            if (round % 7 == 6) z = new CoilWorks();
        }
    }
}
