import java.util.function.Supplier;

/** The edges that promises 18 to 22 name, each by itself, and what Terms 2 says of BOXES and the BAG. */
public final class EdgesOfBeadsTest {
    private static final int[] FAR = {-1, -2, 9, 10, 100, Integer.MIN_VALUE, Integer.MAX_VALUE};

    public static void main(String[] args) {
        beadsRefused();
        beadsUnopened();
        beadsOfMoves();
        beadsOfLike();
        beadsOfLikenessOff();
        beadsOfNoneAndMany();
        opensRefused();
        opensTaken();
        opensWithTheBag();
        putsRefused();
        putsByNumber();
        putsWithTheBag();
        outsRefused();
        outsByNumber();
        outsByWhatIsThere();
        countsRefused();
        countsOfBoxes();
        countsOfGames();
        countsOfTold();
        nothingChanges();
        Due.close("EdgesOfBeadsTest");
    }

    /** POSITIONS that are none of THE CHEST's: not to come, over, the other SIDE's. */
    private static int[] notOfHeap() {
        return new int[] {-1, 0, 1, 17, 15, 19, 20, 19683, Integer.MIN_VALUE, Integer.MAX_VALUE};
    }

    private static int[] notOfBoard() {
        return new int[] {-1, 0, 2, 7, 11, 1 + 3 + 9 + 54 + 162, 19682, 19683, Integer.MIN_VALUE, Integer.MAX_VALUE};
    }

    // 18: "-2: unopened; NONE: no POSITION of THE CHEST's, the MOVE can't be done." Terms 3: "NONE is asked ahead of
    // other answers below 0".

    private static void beadsRefused() {
        for (int p : notOfHeap()) {
            Whole.stays("18: beads(" + p + ", 0)", Whole::heap, x -> x.beads(p, 0), -1);
        }
        for (int p : notOfBoard()) {
            Whole.stays("18: beads(" + p + ", 3)", Whole::board, x -> x.beads(p, 3), -1);
        }
        for (int m : FAR) {
            Whole.stays("18: beads of MOVE " + m, Whole::heap, x -> x.beads(18, m), -1);
            Whole.stays("18: beads of MOVE " + m, Whole::board, x -> x.beads(1, m), -1);
        }
    }

    private static void beadsUnopened() {
        BoxesWithBeads x = Due.with("n9/3");
        for (int m = -1; m <= 9; m++) {
            Due.is("18: unopened, MOVE " + m, x.beads(18, m), m >= 0 && m < 3 ? -2 : -1);
        }
        x.open(18);
        for (int m = -1; m <= 9; m++) {
            Due.is("18: opened, MOVE " + m, x.beads(18, m), m >= 0 && m < 3 ? 4 : -1);
        }
        x = new BoxesWithBeads();
        x.side(1);
        for (int m = -1; m <= 9; m++) {
            Due.is("18: unopened, MOVE " + m + " behind 4", x.beads(81, m), m < 0 || m > 8 || m == 4 ? -1 : -2);
        }
    }

    /** "not more than there are": of a heap, and the last place of a board that is not full. */
    private static void beadsOfMoves() {
        BoxesWithBeads x = Due.with("n7/3");
        for (int left = 1; left <= 3; left++) {
            x.open(2 * left);
            for (int m = 0; m <= 3; m++) {
                Due.is("18: " + (m + 1) + " of " + left, x.beads(2 * left, m), m < left ? 4 : -1);
            }
        }
        for (int wide = 1; wide <= 3; wide++) {
            for (int high = 1; high <= 3; high++) {
                BoxesWithBeads y = Due.with("g" + wide + "x" + high + "k3");
                for (int m = -1; m <= 9; m++) {
                    boolean may = m >= 0 && m < wide * high;
                    Due.is("18: place " + m + " of " + wide + " by " + high, y.beads(0, m), may ? -2 : -1);
                }
                Due.is("18: opened", y.open(0) > 0, true);
                for (int m = -1; m <= 9; m++) {
                    boolean may = m >= 0 && m < wide * high;
                    Due.is("18: place " + m + " of " + wide + " by " + high, y.beads(0, m), may ? 4 : -1);
                }
            }
        }
    }

    /** "the same for all like MOVES, with LIKENESS on". */
    private static void beadsOfLike() {
        BoxesWithBeads x = new BoxesWithBeads();
        x.open(0);
        x.put(0, 8, 1);
        x.put(0, 3, 2);
        x.put(0, 4, 3);
        int[] want = {5, 6, 5, 6, 7, 6, 5, 6, 5};
        for (int m = 0; m <= 8; m++) {
            Due.is("18: like ones, MOVE " + m, x.beads(0, m), want[m]);
            Due.is("20: by any of the like ones, MOVE " + m, x.put(0, m, 1), want[m] + 1);
            Due.is("21: by any of the like ones, MOVE " + m, x.out(0, m, 1), want[m]);
        }
        // They are counted once.
        Due.is("18: of three kinds", x.count(0), 18);
        x = Due.with("g3x2k3");
        x.open(0);
        x.put(0, 4, 1);
        int[] oblong = {4, 5, 4, 4, 5, 4};
        for (int m = 0; m <= 5; m++) {
            Due.is("18: three by two, MOVE " + m, x.beads(0, m), oblong[m]);
        }
    }

    private static void beadsOfLikenessOff() {
        BoxesWithBeads x = new BoxesWithBeads();
        x.likeness(false);
        Due.is("18: nine of their own", x.open(0), 36);
        for (int m = 0; m <= 8; m++) {
            Due.is("20: its own", x.put(0, m, m + 1), m + 5);
        }
        for (int m = 0; m <= 8; m++) {
            Due.is("18: its own", x.beads(0, m), m + 5);
        }
        x.side(1);
        x.open(1);
        Due.is("18: a like board is another BOX", x.beads(9, 0), -2);
        Due.is("18: its own", x.beads(1, 8), 4);
    }

    private static void beadsOfNoneAndMany() {
        BoxesWithBeads x = Due.with("n1/1", "f1");
        x.fresh(0, 0);
        x.open(2);
        Due.is("18: none", x.beads(2, 0), 0);
        x.put(2, 0, 1);
        Due.is("18: one", x.beads(2, 0), 1);
        Due.rule(x, "w+99");
        x.pay(0);
        x.run(0, 200);
        Due.is("18: all there are", x.beads(2, 0), 10000);
    }

    // 19: "A BOX is OPENED by hand: how many beads it got. Refused: as like(), it is opened, not THE CHEST's."

    private static void opensRefused() {
        for (int p : notOfHeap()) {
            Whole.stays("19: open(" + p + ")", Whole::heap, x -> x.open(p), -1);
        }
        for (int p : notOfBoard()) {
            Whole.stays("19: open(" + p + ")", Whole::board, x -> x.open(p), -1);
        }
        Whole.stays("19: it is opened", Whole::heap, x -> x.open(18), -1);
        Whole.stays("19: a like one is opened", () -> {
            BoxesWithBeads x = Whole.board();
            x.side(1);
            x.open(1);
            Due.text(x, "f2");
            return x;
        }, x -> x.open(1) + x.open(9) + x.open(729) + x.open(6561), -4);
        Whole.stays("19: it is opened without beads", () -> {
            BoxesWithBeads x = Whole.heap();
            x.side(0);
            x.fresh(0, 0);
            Due.is("19: none", x.open(18), 0);
            return x;
        }, x -> x.open(18), -1);
    }

    private static void opensTaken() {
        for (int fresh : new int[] {0, 1, 19, 20}) {
            BoxesWithBeads x = Due.with("n5/3");
            x.fresh(0, fresh);
            Due.is("19: three times " + fresh, x.open(10), 3 * fresh);
            Due.is("19: of the last MOVE", x.beads(10, 2), fresh);
            Due.is("22: in BOXES", x.count(0), 3 * fresh);
            Due.is("22: in the BAG", x.count(1), 10000 - 3 * fresh);
            Due.is("22: opened", x.count(3), 1);
            Due.is("22: without beads", x.count(4), fresh == 0 ? 1 : 0);
            Due.is("19: no DRAW", x.seed(1), 1);
        }
        // The last place of all: one MOVE.
        BoxesWithBeads x = new BoxesWithBeads();
        int eight = 1 + 6 + 9 + 54 + 81 + 243 + 1458 + 4374;
        Due.is("19: one place is left", x.open(eight), 4);
        Due.is("19: it is 8", x.beads(eight, 8), 4);
        Due.is("19: 0 can't be done", x.beads(eight, 0), -1);
    }

    /** A chest with so many beads in the BAG; POSITION 10 of n5/2 has all others but those SPENT. */
    private static BoxesWithBeads withBag(int bag) {
        BoxesWithBeads x = Due.with("n5/2", "r0:1");
        Due.rule(x, "w+99;l+99");
        x.open(10);
        x.pay(0);
        x.run(0, 200);
        Due.is("the BAG is empty", x.count(1), 0);
        int left = bag;
        while (left > 0) {
            int n = Math.min(99, left);
            int from = x.beads(10, 0) >= n ? 0 : 1;
            Due.is("goes back", x.out(10, from, n) >= 0, true);
            left -= n;
        }
        x.pay(-1);
        Due.is("so many in the BAG", x.count(1), bag);
        return x;
    }

    /** "as far as the BAG has (MOVE by MOVE)". */
    private static void opensWithTheBag() {
        for (int bag = 0; bag <= 10; bag++) {
            byHand(bag);
        }
    }

    private static void byHand(int bag) {
        BoxesWithBeads x = Due.with("n5/2");
        x.open(10);
        for (int left = 9992 - bag; left > 0; left -= 99) {
            x.put(10, 0, Math.min(99, left));
        }
        Due.is("20: so many in the BAG", x.count(1), bag);
        int first = Math.min(4, bag);
        int second = Math.min(4, bag - first);
        Due.is("19: from " + bag, x.open(6), first + second);
        Due.is("19: the first MOVE, from " + bag, x.beads(6, 0), first);
        Due.is("19: the second MOVE, from " + bag, x.beads(6, 1), second);
        Due.is("19: the BAG, from " + bag, x.count(1), bag - first - second);
        Due.is("22: without beads, from " + bag, x.count(4), bag == 0 ? 1 : 0);
        Due.is("19: once, from " + bag, x.open(6), -1);
    }

    // 20: "n beads (1 .. 99) of a MOVE come from the BAG to an opened BOX (by the MOVE as in beads()): how many it has
    // then. Refused: others, the BAG has not so many."

    private static void putsRefused() {
        for (int n : new int[] {-1, 0, 100, 101, -99, Integer.MIN_VALUE, Integer.MAX_VALUE}) {
            Whole.stays("20: " + n + " beads", Whole::heap, x -> x.put(18, 0, n), -1);
            Whole.stays("20: " + n + " beads", Whole::board, x -> x.put(81, 0, n), -1);
        }
        for (int p : notOfHeap()) {
            Whole.stays("20: put(" + p + ", 0, 1)", Whole::heap, x -> x.put(p, 0, 1), -1);
        }
        for (int p : notOfBoard()) {
            Whole.stays("20: put(" + p + ", 3, 1)", Whole::board, x -> x.put(p, 3, 1), -1);
        }
        for (int m : FAR) {
            Whole.stays("20: MOVE " + m, Whole::heap, x -> x.put(18, m, 1), -1);
            Whole.stays("20: MOVE " + m, Whole::board, x -> x.put(1, m, 1), -1);
        }
        Whole.stays("20: more than may be taken", Whole::heap, x -> x.put(18, 3, 1), -1);
        Whole.stays("20: a place with a stone", EdgesOfBeadsTest::opened, x -> x.put(81, 4, 1), -1);
        Whole.stays("20: unopened", EdgesOfBeadsTest::unopened, x -> x.put(18, 0, 1), -1);
    }

    private static BoxesWithBeads opened() {
        BoxesWithBeads x = Whole.board();
        x.side(1);
        x.open(81);
        return x;
    }

    private static BoxesWithBeads unopened() {
        BoxesWithBeads x = Whole.heap();
        x.side(0);
        return x;
    }

    private static void putsByNumber() {
        BoxesWithBeads x = Due.with("n5/2");
        x.open(10);
        int has = 4;
        for (int n : new int[] {1, 2, 98, 99, 1}) {
            has += n;
            Due.is("20: " + n, x.put(10, 1, n), has);
            Due.is("20: so many in the BAG", x.count(1), 10000 - 4 - has);
        }
        Due.is("20: the other MOVE stays", x.beads(10, 0), 4);
        Due.is("20: none are SPENT", x.count(2), 0);
        Whole.quiet("20: put and out", Whole::heap, y -> y.put(18, 0, 7) + y.out(18, 0, 7));
    }

    private static void putsWithTheBag() {
        for (int bag : new int[] {1, 2, 98, 99}) {
            BoxesWithBeads x = withBag(bag);
            int had = x.beads(10, 0);
            Due.is("20: one more than the BAG has", x.put(10, 0, bag + 1), -1);
            Due.is("20: nothing changed", x.beads(10, 0), had);
            Due.is("20: nothing changed", x.count(1), bag);
            Due.is("20: all that the BAG has", x.put(10, 0, bag), had + bag);
            Due.is("20: the BAG is empty", x.count(1), 0);
            Due.is("20: not one more", x.put(10, 0, 1), -1);
            Due.is("20: all are in BOXES", x.count(0), 10000 - x.count(2));
        }
    }

    // 21: "n beads (1 .. 99) of a MOVE go back to the BAG: how many it has then. Refused: others, it has not so many."

    private static void outsRefused() {
        Supplier<BoxesWithBeads> many = () -> {
            BoxesWithBeads x = Whole.heap();
            x.put(18, 0, 99);
            x.put(18, 0, 99);
            return x;
        };
        for (int n : new int[] {-1, 0, 100, 101, -99, Integer.MIN_VALUE, Integer.MAX_VALUE}) {
            Whole.stays("21: " + n + " beads", many, x -> x.out(18, 0, n), -1);
        }
        for (int p : notOfHeap()) {
            Whole.stays("21: out(" + p + ", 0, 1)", Whole::heap, x -> x.out(p, 0, 1), -1);
        }
        for (int p : notOfBoard()) {
            Whole.stays("21: out(" + p + ", 3, 1)", Whole::board, x -> x.out(p, 3, 1), -1);
        }
        for (int m : FAR) {
            Whole.stays("21: MOVE " + m, Whole::heap, x -> x.out(18, m, 1), -1);
            Whole.stays("21: MOVE " + m, EdgesOfBeadsTest::opened, x -> x.out(81, m, 1), -1);
        }
        Whole.stays("21: more than may be taken", Whole::heap, x -> x.out(18, 3, 1), -1);
        Whole.stays("21: a place with a stone", EdgesOfBeadsTest::opened, x -> x.out(81, 4, 1), -1);
        Whole.stays("21: unopened", EdgesOfBeadsTest::unopened, x -> x.out(18, 0, 1), -1);
    }

    private static void outsByNumber() {
        BoxesWithBeads x = Due.with("n5/2");
        x.open(10);
        x.put(10, 1, 99);
        x.put(10, 1, 99);
        int has = 202;
        for (int n : new int[] {1, 2, 98, 99, 1, 1}) {
            has -= n;
            Due.is("21: " + n, x.out(10, 1, n), has);
            Due.is("21: so many in the BAG", x.count(1), 10000 - 4 - has);
        }
        Due.is("21: none", has, 0);
        Due.is("21: the other MOVE stays", x.beads(10, 0), 4);
        Due.is("21: none are SPENT", x.count(2), 0);
    }

    private static void outsByWhatIsThere() {
        for (int has : new int[] {1, 2, 50, 98, 99}) {
            BoxesWithBeads x = Due.with("n5/2");
            x.fresh(0, 0);
            x.open(10);
            x.put(10, 0, has);
            Due.is("21: one more than there are", x.out(10, 0, has + 1), -1);
            Due.is("21: nothing changed", x.beads(10, 0), has);
            Due.is("21: of the other MOVE", x.out(10, 1, 1), -1);
            Due.is("21: all there are", x.out(10, 0, has), 0);
            Due.is("21: the BAG is full", x.count(1), 10000);
            Due.is("21: not one more", x.out(10, 0, 1), -1);
            Due.is("21: it is opened still", x.beads(10, 0), 0);
            Due.is("21: and can be put to", x.put(10, 0, 1), 1);
        }
    }

    // 22: "NONE for another what."

    private static void countsRefused() {
        for (int what : new int[] {-1, 17, 18, -17, 100, Integer.MIN_VALUE, Integer.MAX_VALUE}) {
            Whole.stays("22: count(" + what + ")", x -> x.count(what), -1);
        }
        for (int what = 0; what <= 16; what++) {
            int of = what;
            Whole.quiet("22: count(" + what + ")", Whole::heap, x -> x.count(of));
        }
    }

    /** 0 to 5, each with none, one and some. */
    private static void countsOfBoxes() {
        BoxesWithBeads x = Due.with("n9/3");
        int[][] steps = {
            // in BOXES, opened, without beads, of one MOVE alone
            {0, 0, 0, 0}, {12, 1, 0, 0}, {8, 1, 0, 0}, {4, 1, 0, 1}, {1, 1, 0, 1}, {0, 1, 1, 0}, {4, 2, 1, 1}, {0, 2, 2, 0},
            {1, 2, 1, 1}, {2, 2, 1, 0},
        };
        for (int i = 0; i < steps.length; i++) {
            switch (i) {
                case 1: x.open(18); break;
                case 2: x.out(18, 1, 4); break;
                case 3: x.out(18, 0, 4); break;
                case 4: x.out(18, 2, 3); break;
                case 5: x.out(18, 2, 1); break;
                case 6: x.open(2); break;
                case 7: x.out(2, 0, 4); break;
                case 8: x.put(18, 2, 1); break;
                case 9: x.put(18, 0, 1); break;
                default: break;
            }
            Due.is("22: step " + i + ", in BOXES", x.count(0), steps[i][0]);
            Due.is("22: step " + i + ", in the BAG", x.count(1), 10000 - steps[i][0]);
            Due.is("22: step " + i + ", SPENT", x.count(2), 0);
            Due.is("22: step " + i + ", opened", x.count(3), steps[i][1]);
            Due.is("22: step " + i + ", without beads", x.count(4), steps[i][2]);
            Due.is("22: step " + i + ", of one MOVE alone", x.count(5), steps[i][3]);
        }
        // Like MOVES are one.
        x = new BoxesWithBeads();
        x.open(0);
        x.out(0, 1, 4);
        x.out(0, 4, 4);
        Due.is("22: four corners are one MOVE", x.count(5), 1);
    }

    /** 6 to 10: "LOST, of these RESIGNED". */
    private static void countsOfGames() {
        BoxesWithBeads x = Due.with("n1/1", "f1");
        String[] games = {"n1/1", "n1/1m", "g1x1k3", "n1/1", "n1/1m", "g1x1k3", "n1/1"};
        int[] fresh = {4, 4, 4, 0, 0, 0, 1};
        int[] ends = {2, 0, 1, 3, 3, 3, 2};
        int[] of = new int[4];
        for (int i = 0; i < games.length; i++) {
            Due.game(x, games[i]);
            x.fresh(0, fresh[i]);
            Due.is("23: " + games[i] + " with " + fresh[i], x.play(0), ends[i]);
            of[ends[i]]++;
            Due.is("22: PLAYED", x.count(6), i + 1);
            Due.is("22: WON", x.count(7), of[2]);
            Due.is("22: DRAWN", x.count(8), of[1]);
            Due.is("22: LOST", x.count(9), of[0] + of[3]);
            Due.is("22: of these RESIGNED", x.count(10), of[3]);
        }
    }

    /** 11 to 16. */
    private static void countsOfTold() {
        BoxesWithBeads x = new BoxesWithBeads();
        for (int i = 0; i <= 8; i++) {
            Due.is("22: RULES", x.count(11), i);
            Due.is("22: FOES", x.count(12), i);
            Due.rule(x, "e" + i);
            Due.foe(x, "m1");
            Due.is("22: THE RULE", x.count(13), -1);
        }
        Due.is("22: RULES", x.count(11), 8);
        Due.is("22: FOES", x.count(12), 8);
        x.pay(7);
        Due.is("22: THE RULE", x.count(13), 7);
        x.pay(0);
        Due.is("22: THE RULE", x.count(13), 0);
        for (int i = 0; i < 15; i++) {
            Due.is("22: signs", x.count(15), 4 * i);
            x.sign(i);
        }
        Due.is("22: signs", x.count(15), 60);
        Due.is("22: no ROW", x.count(16), 0);
        x.value(0);
        Due.is("22: nine", x.count(16), 9);
        x.knows();
        Due.is("22: two", x.count(16), 2);
        x.fresh(0, 0);
        x.play(0);
        Due.is("22: none", x.count(16), 0);
    }

    private static void nothingChanges() {
        Whole.quiet("18: beads", Whole::heap, x -> x.beads(18, 0));
        Whole.quiet("18: beads of an unopened one", EdgesOfBeadsTest::unopened, x -> x.beads(18, 0));
        Whole.quiet("18: beads", Whole::board, x -> x.beads(1, 8));
    }
}
