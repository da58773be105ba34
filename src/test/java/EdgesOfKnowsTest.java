import java.util.function.Supplier;

/** The edges that promises 28 to 30 name, each by itself. */
public final class EdgesOfKnowsTest {
    public static void main(String[] args) {
        knowsNothing();
        knowsByBead();
        knowsOfEmpty();
        knowsByLike();
        knowsChangesTheRow();
        sharesRefused();
        sharesOfNone();
        sharesCut();
        sharesOfAll();
        sharesByLike();
        errsRefused();
        errsOfNone();
        errsByBead();
        errsByOwnMoves();
        Due.close("EdgesOfKnowsTest");
    }

    /** Of 7 by 3 three are the best to take: MOVE 2; of 8 all are alike. */
    private static BoxesWithBeads seven(int first, int second, int best) {
        BoxesWithBeads x = Due.with("n7/3");
        x.fresh(0, 0);
        x.open(14);
        int[] beads = {first, second, best};
        for (int m = 0; m < 3; m++) {
            for (int left = beads[m]; left > 0; left -= 99) {
                x.put(14, m, Math.min(99, left));
            }
        }
        return x;
    }

    private static void knows(String what, BoxesWithBeads x, int alone, int some, int none) {
        Due.is("28: " + what, x.knows(), alone);
        Due.row("28: " + what, x, some, none);
    }

    // 28: "Opened BOXES with beads, by VALUE: how many have beads of best MOVES alone; the ROW: how many have some, but
    // others too, how many have none of these."

    private static void knowsNothing() {
        knows("a new one", new BoxesWithBeads(), 0, 0, 0);
        knows("no beads", seven(0, 0, 0), 0, 0, 0);
        BoxesWithBeads x = Due.with("n1/1");
        x.side(1);
        knows("it has no BOX", x, 0, 0, 0);
    }

    private static void knowsByBead() {
        knows("the best alone", seven(0, 0, 1), 1, 0, 0);
        knows("the best alone, many", seven(0, 0, 5000), 1, 0, 0);
        knows("one other", seven(0, 1, 5000), 0, 1, 0);
        knows("one of the best", seven(2000, 3000, 1), 0, 1, 0);
        knows("none of the best", seven(2000, 3000, 0), 0, 0, 1);
        knows("one bead, not of the best", seven(1, 0, 0), 0, 0, 1);
        // LOST whatever is done: all MOVES are best ones.
        BoxesWithBeads x = Due.with("n8/3");
        x.open(16);
        knows("nothing to lose", x, 1, 0, 0);
        x.out(16, 1, 4);
        x.out(16, 2, 4);
        knows("nothing to lose", x, 1, 0, 0);
    }

    private static void knowsOfEmpty() {
        BoxesWithBeads x = Due.with("n7/3");
        x.open(14);
        x.open(2);
        knows("some of 7, all of 1", x, 1, 1, 0);
        x.out(2, 0, 4);
        knows("a BOX without beads is nowhere", x, 0, 1, 0);
        x.out(14, 2, 4);
        knows("none of the best", x, 0, 0, 1);
        x.out(14, 1, 4);
        x.out(14, 0, 3);
        knows("one bead", x, 0, 0, 1);
        x.out(14, 0, 1);
        knows("no bead", x, 0, 0, 0);
        Due.is("28: they are opened still", x.count(3), 2);
    }

    private static void knowsByLike() {
        BoxesWithBeads x = new BoxesWithBeads();
        x.side(1);
        // Behind a corner the middle alone draws; behind the middle the corners draw, which are one kind.
        x.open(1);
        x.open(81);
        knows("two BOXES", x, 0, 2, 0);
        Due.is("21: the edges", x.out(81, 7, 4), 0);
        knows("the corners alone", x, 1, 1, 0);
        Due.is("21: the corners", x.out(81, 8, 4), 0);
        x.put(81, 5, 1);
        knows("an edge alone", x, 0, 1, 1);
    }

    private static void knowsChangesTheRow() {
        BoxesWithBeads y = Whole.heap();
        int alone = y.knows();
        Whole.rowAlone("28: knows", Whole::heap, x -> x.knows(), alone, y.row(0), y.row(1));
        y = Whole.board();
        alone = y.knows();
        Whole.rowAlone("28: knows", Whole::board, x -> x.knows(), alone, y.row(0), y.row(1));
    }

    // 29: "Of an opened BOX's beads how many in 1000 (cut) are of best MOVES. -2: unopened, no beads; NONE: as like(),
    // not THE CHEST's."

    private static final int[] NOT_OF_HEAP = {-1, 0, 1, 17, 15, 19, 20, 19683, Integer.MIN_VALUE, Integer.MAX_VALUE};
    private static final int[] NOT_OF_BOARD = {-1, 0, 2, 7, 11, 1 + 3 + 9 + 54 + 162, 19682, 19683, Integer.MIN_VALUE,
        Integer.MAX_VALUE};

    private static void sharesRefused() {
        for (int p : NOT_OF_HEAP) {
            Whole.stays("29: share(" + p + ")", Whole::heap, x -> x.share(p), -1);
        }
        for (int p : NOT_OF_BOARD) {
            Whole.stays("29: share(" + p + ")", Whole::board, x -> x.share(p), -1);
        }
    }

    private static void sharesOfNone() {
        Supplier<BoxesWithBeads> unopened = () -> {
            BoxesWithBeads x = Whole.heap();
            x.side(0);
            return x;
        };
        Whole.stays("29: unopened", unopened, x -> x.share(18), -2);
        Whole.stays("29: no beads", () -> seven(0, 0, 0), x -> x.share(14), -2);
        Due.is("29: one bead", seven(0, 0, 1).share(14), 1000);
        Due.is("29: one bead", seven(1, 0, 0).share(14), 0);
    }

    private static void sharesCut() {
        int[][] beads = {{1, 0, 1}, {1, 1, 1}, {2, 0, 1}, {1, 0, 2}, {1, 0, 998}, {1, 0, 999}, {1, 0, 1000}, {998, 0, 1},
            {999, 0, 1}, {1000, 0, 1}, {0, 9999, 1}, {1, 0, 9999}, {0, 0, 10000}, {10000, 0, 0}, {0, 5001, 4999}};
        int[] want = {500, 333, 333, 666, 998, 999, 999, 1, 1, 0, 0, 999, 1000, 0, 499};
        for (int i = 0; i < beads.length; i++) {
            BoxesWithBeads x = seven(beads[i][0], beads[i][1], beads[i][2]);
            Due.is("29: of " + beads[i][0] + ", " + beads[i][1] + " and " + beads[i][2], x.share(14), want[i]);
        }
    }

    private static void sharesOfAll() {
        BoxesWithBeads x = Due.with("n8/3");
        x.open(16);
        Due.is("29: all are best", x.share(16), 1000);
        x.out(16, 0, 4);
        x.out(16, 1, 4);
        x.out(16, 2, 3);
        Due.is("29: all are best", x.share(16), 1000);
        x.open(2);
        Due.is("29: one MOVE alone", x.share(2), 1000);
        Whole.quiet("29: share", Whole::heap, y -> y.share(18));
        Whole.quiet("29: share", Whole::board, y -> y.share(81));
    }

    private static void sharesByLike() {
        BoxesWithBeads x = new BoxesWithBeads();
        x.side(1);
        x.open(9);
        for (int p : new int[] {1, 9, 729, 6561}) {
            Due.is("29: one of five kinds", x.share(p), 200);
        }
        x.put(9, 4, 10);
        for (int p : new int[] {1, 9, 729, 6561}) {
            Due.is("29: 14 of 30", x.share(p), 466);
        }
        // Four corners are one kind of two.
        x.open(81);
        Due.is("29: corners and edges", x.share(81), 500);
    }

    // 30: "The least MOVE with beads in a POSITION's BOX (by its own MOVES) that loses VALUE; -2: none; NONE: as
    // share(), unopened."

    private static void errsRefused() {
        for (int p : NOT_OF_HEAP) {
            Whole.stays("30: errs(" + p + ")", Whole::heap, x -> x.errs(p), -1);
        }
        for (int p : NOT_OF_BOARD) {
            Whole.stays("30: errs(" + p + ")", Whole::board, x -> x.errs(p), -1);
        }
        Whole.stays("30: unopened", () -> {
            BoxesWithBeads x = Whole.heap();
            x.side(0);
            return x;
        }, x -> x.errs(18), -1);
    }

    private static void errsOfNone() {
        Whole.stays("30: no beads", () -> seven(0, 0, 0), x -> x.errs(14), -2);
        Due.is("30: the best alone", seven(0, 0, 1).errs(14), -2);
        Due.is("30: the best alone", seven(0, 0, 9999).errs(14), -2);
        BoxesWithBeads x = Due.with("n8/3");
        x.open(16);
        x.open(2);
        Due.is("30: nothing to lose", x.errs(16), -2);
        Due.is("30: one MOVE alone", x.errs(2), -2);
    }

    private static void errsByBead() {
        Due.is("30: one bead of the first", seven(1, 0, 0).errs(14), 0);
        Due.is("30: one bead of the second", seven(0, 1, 0).errs(14), 1);
        Due.is("30: of both the least", seven(1, 1, 5).errs(14), 0);
        Due.is("30: the second, and the best", seven(0, 1, 9000).errs(14), 1);
        Whole.quiet("30: errs", Whole::heap, x -> x.errs(18));
        Whole.quiet("30: errs", Whole::board, x -> x.errs(81));
    }

    private static void errsByOwnMoves() {
        // A stone at a corner: the middle alone is no error. Beads on the far corner alone, then on an edge at it.
        int[] corners = {1, 9, 729, 6561};
        int[] far = {8, 6, 2, 0};
        int[] farEdge = {5, 3, 1, 1};
        int[] nearEdge = {1, 1, 3, 5};
        int[] nearCorner = {2, 0, 0, 2};
        BoxesWithBeads x = new BoxesWithBeads();
        x.side(1);
        x.fresh(1, 0);
        x.open(1);
        x.put(1, 4, 1);
        for (int i = 0; i < 4; i++) {
            Due.is("30: the middle", x.errs(corners[i]), -2);
        }
        for (int step = 0; step < 4; step++) {
            int m = new int[] {8, 5, 1, 2}[step];
            int[] want = new int[][] {far, farEdge, nearEdge, nearCorner}[step];
            x.put(1, m, 1);
            for (int i = 0; i < 4; i++) {
                Due.is("30: beads of " + m + ", stone at corner " + i, x.errs(corners[i]), want[i]);
            }
            x.out(1, m, 1);
        }
    }
}
