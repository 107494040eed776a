/** Promises 1 to 12: each sentence that names a bound, at the bound and one step beyond it. */
public final class CoilWorksBoundsOfPieces extends Bench {
    public static void main(String[] args) {
        newObject();
        newNumbers();
        irons();
        manyPieces();
        gaps();
        gapAt();
        magnets();
        windings();
        currents();
        sources();
        turns();
        characters();
        erasing();
        tooEarly();
        canNotStand();
        lettersOfNoPiece();
        lettersAgain();
        open();
        blanks();
        firstFault();
        end("bounds of pieces");
    }

    // ---- promise 1

    private static void newObject() {
        CoilWorks x = new CoilWorks();
        sentence(1, "no PIECES; TURN 0; THE FRACTION 0 by 1");
        due("count(0)", x.count(0), 0);
        due("source(0)", x.source(0), BAD_SOURCE);
        due("turn", x.turn(0), 0);
        dueFraction("nothing asked yet", x, 0, 0, 1);
        sentence(1, "As told");
        due("characters", x.erase(), 0);
        due("seen", x.forget(), 0);
        due("slots", x.count(4), 12);
        due("coil sides", x.count(5), 0);
        for (int phase = 0; phase < 3; phase++) due("star", x.star(phase, 0, 0), 0);
        due("i", x.ran(0), 0);
        due("on", x.ran(1), 1);
        due("went off or on", x.ran(2), 0);
        due("ticks", x.ran(3), 0);
        for (int b = 0; b < 4; b++) due("warmth", x.warmth(b), 0);
        due("image 0", x.from(0), NO);
        due("image 1", x.from(1), NO);
        sentence(1, "A new object");
        SMALL.make();
        FULLY.make();
        NEW.dueUntouched("others that were told much leave a new one as it is", new CoilWorks());
    }

    private static void newNumbers() {
        CoilWorks x = new CoilWorks();
        x.gap();
        sentence(3, "0 at first");
        due("source of a new piece", x.source(0), 0);
        for (int w = 0; w < 4; w++) x.turns(w, 0, 1);
        due("CURRENTS are 0", x.source(0), 0);
        CoilWorks y = new CoilWorks();
        for (int w = 0; w < 4; w++) y.current(w, 7);
        y.gap();
        due("TURNS are 0", y.source(0), 0);
        // A piece that comes where one was before it was gone back ahead of it is new.
        sentence(44, "it goes on from one");
        CoilWorks z = new CoilWorks();
        z.image(0);
        z.iron(7, 6, 5, 7, 4);
        z.magnet(0, 5);
        z.turns(1, 0, 5);
        z.current(1, 5);
        z.gap();
        z.gapAt(1, 5, 99);
        due("from", z.from(0), 1);
        due("gap", z.gap(), 0);
        due("gap", z.gap(), 1);
        due("10 at first", z.gapAt(1, 5, 3), 10);
        due("CURRENT", z.current(1, 5), 1);
        due("MAGNET and TURNS 0 at first", z.source(0), 0);
        due("a GAP now", z.gapAt(0, 0, 3), 10);
    }

    // ---- promises 2 to 4

    private static void irons() {
        sentence(2, "S 1 .. 200");
        beyond("iron(v, 100, 1, 200, 1)", 1, 200, (x, v) -> x.iron(v, 100, 1, 200, 1), BAD);
        beyond("iron(200, 100, v, 200, 1)", 1, 200, (x, v) -> x.iron(200, 100, v, 200, 1), BAD);
        beyond("iron(200, 100, 200, 200, v)", 1, 200, (x, v) -> x.iron(200, 100, 200, 200, v), BAD);
        everywhere("iron of 201", x -> x.iron(201, 1, 201, 2, 201), BAD);
        everywhere("iron of 0", x -> x.iron(0, 1, 0, 2, 0), BAD);
        CoilWorks x = new CoilWorks();
        due("all 200", x.iron(200, 1, 200, 2, 200), 0);
        due("all 1", x.iron(1, 1, 1, 2, 1), 1);
        due("200 and 1", x.iron(200, 1, 1, 2, 1), 2);
        sentence(2, "none greater than the one ahead");
        everywhere("S2 one more than S1", y -> y.iron(5, 1, 6, 2, 1), BAD);
        everywhere("S3 one more than S2", y -> y.iron(9, 1, 5, 2, 6), BAD);
        due("alike", x.iron(5, 1, 5, 2, 5), 3);
        due("S2 one less", x.iron(5, 1, 4, 2, 4), 4);
        due("S3 one less", x.iron(5, 1, 5, 2, 4), 5);
        sentence(2, "1 <= X1 < X2 <= 10000");
        beyond("iron(3, v, 2, 10000, 1)", 1, 9999, (y, v) -> y.iron(3, v, 2, 10000, 1), BAD);
        beyond("iron(3, 100, 2, v, 1)", 101, 10000, (y, v) -> y.iron(3, 100, 2, v, 1), BAD);
        everywhere("X1 0", y -> y.iron(3, 0, 2, 1, 1), BAD);
        everywhere("X2 10001", y -> y.iron(3, 10000, 2, 10001, 1), BAD);
        CoilWorks z = new CoilWorks();
        due("least", z.iron(3, 1, 2, 2, 1), 0);
        due("greatest", z.iron(3, 9999, 2, 10000, 1), 1);
        due("farthest apart", z.iron(3, 1, 2, 10000, 1), 2);
        due("one apart", z.iron(3, 100, 2, 101, 1), 3);
    }

    private static void manyPieces() {
        sentence(2, "PIECES 0 .. 6, as they come");
        CoilWorks x = new CoilWorks();
        for (int i = 0; i < 7; i++) {
            due("count", x.count(0), i);
            due("iron or gap", i % 2 == 0 ? x.iron(3, 2, 2, 3, 1) : x.gap(), i);
        }
        due("count", x.count(0), 7);
        sentence(2, "BAD; FULL: 7");
        FULLY.refuses("iron", y -> y.iron(3, 2, 2, 3, 1), FULL);
        FULLY.refuses("iron, bad as well", y -> y.iron(3, 2, 4, 3, 1), BAD);
        CoilWorks z = new CoilWorks();
        for (int i = 0; i < 6; i++) z.gap();
        due("iron as the last", z.iron(3, 2, 2, 3, 1), 6);
        due("iron as the 8th", z.iron(3, 2, 2, 3, 1), FULL);
        sentence(3, "FULL");
        FULLY.refuses("gap", CoilWorks::gap, FULL);
        FAULTY.refuses("gap", CoilWorks::gap, FULL);
        due("gap as the 8th", z.gap(), FULL);
        due("count", z.count(0), 7);
    }

    private static void gaps() {
        sentence(3, "it carries a number (1 .. 200; 10 at first) for each push");
        CoilWorks x = new CoilWorks();
        for (int p = 0; p < 7; p++) x.gap();
        for (int p = 0; p < 7; p++) {
            for (int t = 0; t < 24; t++) due("gapAt(" + p + ", " + t + ")", x.gapAt(p, t, 1 + t + 24 * p), 10);
        }
        sentence(4, "What a GAP carries at a TURN: what it was");
        for (int p = 0; p < 7; p++) {
            for (int t = 0; t < 24; t++) due("gapAt(" + p + ", " + t + ")", x.gapAt(p, t, 200 - t), 1 + t + 24 * p);
        }
    }

    private static void gapAt() {
        sentence(4, "PIECES 0 .. 6");
        beyondPieces("gapAt(v, 1, 5)", (x, v) -> x.gapAt(v, 1, 5), BAD);
        sentence(4, "BAD: of IRON, too");
        for (int p = 0; p < 7; p += 2) {
            int piece = p;
            everywhere("gapAt of iron " + p, x -> x.gapAt(piece, 1, 5), BAD);
        }
        sentence(4, "TURN 0 .. 23");
        beyond("gapAt(1, v, 5)", 0, 23, (x, v) -> x.gapAt(1, v, 5), BAD);
        CoilWorks x = SMALL.make();
        due("TURN 0", x.gapAt(1, 0, 5), 10);
        due("TURN 23", x.gapAt(1, 23, 6), 10);
        due("TURN 0 was", x.gapAt(1, 0, 7), 5);
        due("TURN 23 was", x.gapAt(1, 23, 8), 6);
        sentence(4, "1 .. 200");
        beyond("gapAt(1, 3, v)", 1, 200, (y, v) -> y.gapAt(1, 3, v), BAD);
        due("most", x.gapAt(1, 3, 200), 17);
        due("least", x.gapAt(1, 3, 1), 200);
        due("refused", x.gapAt(1, 3, 201), BAD);
        due("refused", x.gapAt(1, 3, 0), BAD);
        due("what it was, behind refused calls", x.gapAt(1, 3, 2), 1);
    }

    // ---- promises 5 to 9

    private static void magnets() {
        sentence(5, "A MAGNET in any PIECE");
        beyondPieces("magnet(v, 5)", (x, v) -> x.magnet(v, 5), BAD);
        sentence(5, "-5000 .. 5000");
        beyond("magnet(0, v)", -5000, 5000, (x, v) -> x.magnet(0, v), BAD);
        beyond("magnet(2, v)", -5000, 5000, (x, v) -> x.magnet(2, v), BAD);
        CoilWorks x = new CoilWorks();
        for (int p = 0; p < 7; p++) {
            if (p % 2 == 0) x.gap();
            else x.iron(3, 2, 2, 3, 1);
            int push = p % 4 < 2 ? 5000 : -5000;
            due("magnet", x.magnet(p, push), 1);
            due("source", x.source(p), push);
        }
        due("told again", x.magnet(0, -4999), 1);
        due("the last told alone", x.source(0), -4999);
        due("taken away", x.magnet(0, 0), 1);
        due("none", x.source(0), 0);
        due("told again behind that", x.magnet(0, 5000), 1);
        due("source", x.source(0), 5000);
        due("the others are as they were", x.source(6), -5000);
    }

    private static void windings() {
        sentence(6, "WINDINGS 0 .. 3");
        beyond("turns(v, 0, 5)", 0, 3, (x, v) -> x.turns(v, 0, 5), BAD);
        sentence(6, "go round PIECES");
        beyondPieces("turns(1, v, 5)", (x, v) -> x.turns(1, v, 5), BAD);
        sentence(6, "TURNS (-50 .. 50; 0 at first)");
        beyond("turns(0, 0, v)", -50, 50, (x, v) -> x.turns(0, 0, v), BAD);
        beyond("turns(3, 2, v)", -50, 50, (x, v) -> x.turns(3, 2, v), BAD);
        CoilWorks x = new CoilWorks();
        for (int p = 0; p < 7; p++) x.gap();
        for (int w = 0; w < 4; w++) {
            x.current(w, 1);
            due("turns round the first", x.turns(w, 0, 50), 1);
            due("source", x.source(0), 50);
            due("turns round the last", x.turns(w, 6, -50), 1);
            due("source", x.source(6), -50);
            due("told again", x.turns(w, 0, 49), 1);
            due("the last told alone", x.source(0), 49);
            due("taken away", x.turns(w, 0, 0), 1);
            due("none", x.source(0), 0);
            x.turns(w, 6, 0);
        }
    }

    private static void currents() {
        sentence(7, "WINDINGS 0 .. 3");
        beyond("current(v, 5)", 0, 3, (x, v) -> x.current(v, 5), BAD);
        sentence(7, "a CURRENT (-100 .. 100; 0 at first)");
        beyond("current(0, v)", -100, 100, (x, v) -> x.current(0, v), BAD);
        beyond("current(3, v)", -100, 100, (x, v) -> x.current(3, v), BAD);
        CoilWorks x = new CoilWorks();
        due("with no piece", x.current(0, 0), 1);
        x.gap();
        for (int w = 0; w < 4; w++) {
            x.turns(w, 0, 1);
            due("at first", x.source(0), 0);
            due("most", x.current(w, 100), 1);
            due("source", x.source(0), 100);
            due("least", x.current(w, -100), 1);
            due("the last told alone", x.source(0), -100);
            due("taken away", x.current(w, 0), 1);
            due("none", x.source(0), 0);
        }
    }

    private static void sources() {
        sentence(8, "BAD: -1000000");
        beyondPieces("source(v)", (x, v) -> x.source(v), BAD_SOURCE);
        sentence(8, "THE SOURCE of a PIECE: its MAGNET and the sum over WINDINGS of TURNS times CURRENT");
        for (int sign = -1; sign <= 1; sign += 2) {
            CoilWorks x = new CoilWorks();
            for (int p = 0; p < 7; p++) x.iron(3, 2, 2, 3, 1);
            for (int w = 0; w < 4; w++) x.current(w, w % 2 == 0 ? 100 : -100);
            for (int p = 0; p < 7; p += 6) {
                x.magnet(p, 5000 * sign);
                for (int w = 0; w < 4; w++) x.turns(w, p, (w % 2 == 0 ? 50 : -50) * sign);
                due("the farthest", x.source(p), 25000 * sign);
            }
            due("of another piece", x.source(3), 0);
        }
        CoilWorks y = new CoilWorks();
        y.gap();
        int[] turns = {3, -5, 7, 11};
        int[] currents = {2, 13, -17, 19};
        y.magnet(0, -23);
        for (int w = 0; w < 4; w++) {
            y.turns(w, 0, turns[w]);
            y.current(w, currents[w]);
        }
        due("all together", y.source(0), -23 + 6 - 65 - 119 + 209);
    }

    private static void turns() {
        sentence(9, "TURN 0 .. 23");
        beyond("turn(v)", 0, 23, (x, v) -> x.turn(v), BAD);
        sentence(9, "The TURN: what it was");
        CoilWorks x = new CoilWorks();
        for (int t = 0; t < 24; t++) {
            due("turn", x.turn(t), Math.max(0, t - 1));
            due("count(3)", x.count(3), t);
        }
        due("the same again", x.turn(23), 23);
        due("refused", x.turn(24), BAD);
        due("what it was, behind a refused call", x.turn(0), 23);
        due("0", x.turn(0), 0);
    }

    // ---- promises 10, 11

    private static void characters() {
        sentence(10, "A character (0 .. 127)");
        beyond("write(v)", 0, 127, (x, v) -> x.write(v), BAD);
        everywhere("write(256 + 97)", x -> x.write(256 + 97), BAD);
        sentence(10, "behind THE PATH: how many. BAD; FULL: 40");
        CoilWorks x = new CoilWorks();
        for (int i = 0; i < 40; i++) {
            due("count(1)", x.count(1), i);
            due("write", x.write(i % 3 == 0 ? 0 : i % 3 == 1 ? 127 : ' '), i + 1);
        }
        due("the 41st", x.write(97), FULL);
        due("the 41st, bad as well", x.write(128), BAD);
        due("the 41st, bad as well", x.write(-1), BAD);
        due("how many", x.count(1), 40);
        FULLY.refuses("write", y -> y.write('a'), FULL);
        FULLY.refuses("write 0", y -> y.write(0), FULL);
        FULLY.refuses("write 127", y -> y.write(127), FULL);
        FAULTY.refuses("write", y -> y.write(' '), FULL);
        // Each number stays what it is: the digest has them.
        CoilWorks a = new CoilWorks();
        CoilWorks b = new CoilWorks();
        a.write(0);
        b.write(127);
        due("0 and 127 in the digest", b.digest() - a.digest(), 127 * power(31, 12 + 4 + 4));
    }

    private static long power(long base, int n) {
        long product = 1;
        for (int i = 0; i < n; i++) product *= base;
        return product;
    }

    private static void erasing() {
        sentence(11, "THE PATH is empty: how many");
        CoilWorks x = new CoilWorks();
        due("an empty one", x.erase(), 0);
        due("again", x.erase(), 0);
        x.write('a');
        due("one", x.erase(), 1);
        due("empty now", x.erase(), 0);
        for (int i = 0; i < 40; i++) x.write('b');
        due("a full one", x.erase(), 40);
        due("count(1)", x.count(1), 0);
        due("fault", x.fault(), 1);
        x.gap();
        for (int i = 0; i < 40; i++) due("written again", x.write(i == 39 ? 'a' : ' '), i + 1);
        due("fault", x.fault(), NONE);
        due("full again", x.write('a'), FULL);
    }

    // ---- promise 12

    private static int faultOf(int pieces, String path) {
        CoilWorks x = new CoilWorks();
        for (int i = 0; i < pieces; i++) x.gap();
        write(x, path);
        due("characters of '" + path + "'", x.count(1), path.length());
        return x.fault();
    }

    private static void dueFault(int pieces, String path, int want) {
        due("fault of '" + path + "' with " + pieces + " pieces", faultOf(pieces, path), want);
    }

    private static String blanks(int n) {
        return " ".repeat(n);
    }

    private static void tooEarly() {
        sentence(12, "its length: too early");
        dueFault(0, "", 1);
        dueFault(7, "", 1);
        dueFault(7, " ", 11);
        dueFault(7, blanks(40), 401);
        dueFault(7, "a-", 21);
        dueFault(7, "a|", 21);
        dueFault(7, "a- ", 31);
        dueFault(7, "(", 11);
        dueFault(7, "(a", 21);
        dueFault(7, "(a  ", 41);
        dueFault(7, "(a-", 31);
        dueFault(7, "((a)", 41);
        dueFault(7, "((((((((a", 91);
        dueFault(7, "((((((((", 81);
        dueFault(7, blanks(38) + "a-", 401);
        dueFault(7, blanks(38) + "(a", 401);
        dueFault(7, blanks(37) + "a-b", NONE);
        dueFault(1, "a", NONE);
    }

    private static void canNotStand() {
        sentence(12, "10 times the place of the first character that can not stand there");
        String others = "-|)A`h{1.\t\n\0\u007f";
        for (int i = 0; i < others.length(); i++) {
            char c = others.charAt(i);
            dueFault(7, c + "", 1);
            dueFault(7, " " + c, 11);
            dueFault(7, "(" + c, 11);
            dueFault(7, "a-" + c, 21);
            dueFault(7, "a|" + c + "b", 21);
            dueFault(7, blanks(39) + c, 391);
        }
        String behind = "(abcgA`h{1.)\t\n\0\u007f";
        for (int i = 0; i < behind.length(); i++) {
            char c = behind.charAt(i);
            dueFault(7, "a" + c, 11);
            dueFault(7, "a " + c + "b", 21);
            dueFault(7, "(a)" + c, 31);
            if (c != ')') dueFault(7, "(a" + c + ")", 21);
            dueFault(7, blanks(38) + "a" + c, 391);
        }
        dueFault(7, "()", 11);
        dueFault(7, "(a-)", 31);
        dueFault(7, "(a|)", 31);
        dueFault(7, "(a))", 31);
        dueFault(7, "a--b", 21);
        dueFault(7, "a-|b", 21);
        dueFault(7, "a||b", 21);
        dueFault(7, "(a)(b)", 31);
        dueFault(7, "(a)b", 31);
    }

    private static void lettersOfNoPiece() {
        sentence(12, "2: a letter a .. g of no PIECE");
        for (int pieces = 0; pieces <= 7; pieces++) {
            for (char c = 'a'; c <= 'g'; c++) dueFault(pieces, c + "", c - 'a' < pieces ? NONE : 2);
            dueFault(pieces, "`", 1);
            dueFault(pieces, "h", 1);
        }
        dueFault(3, "a-d", 22);
        dueFault(3, "a|(b-d)", 52);
        dueFault(3, "a| g", 32);
        dueFault(6, blanks(39) + "g", 392);
        dueFault(7, blanks(39) + "g", NONE);
        dueFault(3, "ad", 11);
        dueFault(0, "h", 1);
        dueFault(1, "(b", 12);
        CoilWorks x = new CoilWorks();
        x.write('a');
        due("with no piece", x.fault(), 2);
        x.gap();
        due("the same path with a piece", x.fault(), NONE);
    }

    private static void lettersAgain() {
        sentence(12, "3: a letter for the second time");
        for (char c = 'a'; c <= 'g'; c++) {
            dueFault(7, c + "-" + c, 23);
            dueFault(7, c + "|" + c, 23);
            dueFault(7, "(" + c + ")|(" + c + ")", 53);
        }
        dueFault(7, "a-b-c-d-e-f-g", NONE);
        dueFault(7, "g|f|e|d|c|b|a", NONE);
        dueFault(7, "a-b-c-d-e-f-g-a", 143);
        dueFault(7, "a-b-c-d-e-f-g-g", 143);
        dueFault(7, "aa", 11);
        dueFault(7, "a-b-a-b", 43);
        dueFault(7, blanks(37) + "a-a", 393);
        dueFault(1, "b-b", 2);
    }

    private static void open() {
        sentence(12, "4: the 9th ( open");
        dueFault(7, "((((((((a))))))))", NONE);
        dueFault(7, "(((((((((a)))))))))", 84);
        dueFault(7, "( ( ( ( ( ( ( (( a", 154);
        dueFault(7, "(((((((((", 84);
        dueFault(7, "((((((((a)|(b))))))))", NONE);
        dueFault(7, "((((((((a)-((b", 124);
        dueFault(7, "((((((((a|((b", 104);
        dueFault(7, "a-((((((((b))))))))", NONE);
        dueFault(7, "a-(((((((((b", 104);
        dueFault(7, "((((((((a(", 91);
        dueFault(7, "((((((((a))))))))-((((((((b))))))))", NONE);
        dueFault(7, "((((((((a))))))))-(((((((((b", 264);
        dueFault(7, "(a)-(b)-(c)-(d)-(e)-(f)-(g)", NONE);
        dueFault(7, "((((a)))-(((b)))|(((c)))-(((d)))-(e))", NONE);
    }

    private static void blanks() {
        sentence(12, "Blanks anywhere");
        dueFault(7, "  (  a  -  b  )  |  c  ", NONE);
        dueFault(7, " a", NONE);
        dueFault(7, "a ", NONE);
        dueFault(7, "a" + blanks(39), NONE);
        dueFault(7, blanks(39) + "a", NONE);
        dueFault(7, "a b", 21);
        dueFault(7, "a" + blanks(38) + "b", 391);
        dueFault(7, "a" + blanks(38) + "-", 401);
        dueFault(7, "a-b-c-d-e-f-g" + blanks(27), NONE);
    }

    private static void firstFault() {
        sentence(12, "the first character that can not stand there");
        dueFault(2, "a-c-a-)", 22);
        dueFault(2, "a-a-c-)", 23);
        dueFault(2, "a-)-a-c", 21);
        dueFault(2, "(((((((((c", 84);
        dueFault(2, "c(((((((((", 2);
        dueFault(2, "-", 1);
        dueFault(2, "a)-", 11);
        dueFault(2, "a-b-", 41);
        // However often a path with a fault was read, and wherever its fault is: what is read next is read right.
        String[] wrong = {"((((((((", "((((((((a", "a-(b|(", "a-b)", "(a|b-a", "a|b-(((((((((", "a--"};
        for (String path : wrong) {
            CoilWorks x = new CoilWorks();
            for (int i = 0; i < 3; i++) x.gap();
            x.magnet(0, 3);
            write(x, path);
            int fault = x.fault();
            for (int i = 0; i < 100; i++) due("fault of '" + path + "', again", x.fault(), fault);
            write(x, "(a)-b|c");
            for (int i = 0; i < 100; i++) due("fault of a right path", x.fault(), NONE);
            dueFraction("flow behind it", x, x.flow(0), 15, 1);
            dueFraction("flow behind it", x, x.flow(2), 0, 1);
        }
        sentence(12, "NONE: none");
        due("a full path", FULLY.make().fault(), NONE);
        due("a full path, its last character wrong", FAULTY.make().fault(), 401);
        FULLY.refuses("asking changes nothing", CoilWorks::fault, NONE);
    }
}
