/** Promises 28 to 30: knows, share, errs. */
public final class KnowsTest {
    public static void main(String[] args) {
        knows();
        shares();
        errs();
        errsByOwnMoves();
        Due.close("KnowsTest");
    }

    private static void knows() {
        BoxesWithBeads x = Due.with("n7/3");
        Due.is("28: none opened", x.knows(), 0);
        Due.row("28: none opened", x, 0, 0);
        // Of 7 the best is to take 3; of 4 all are LOST alike; of 3 the best is 3, of 2 2, of 1 1.
        x.open(14);
        x.open(8);
        x.open(6);
        x.open(4);
        x.open(2);
        Due.is("28: of 4 and of 1", x.knows(), 2);
        Due.row("28: of 7, 3 and 2", x, 3, 0);
        x.out(14, 2, 4);
        Due.is("28: none of the best", x.knows(), 2);
        Due.row("28: of 7", x, 2, 1);
        x.out(14, 0, 4);
        x.out(14, 1, 4);
        Due.is("28: without beads: nowhere", x.knows(), 2);
        Due.row("28: without beads", x, 2, 0);
        x.put(14, 2, 1);
        x.out(6, 0, 4);
        x.out(6, 1, 4);
        Due.is("28: learnt", x.knows(), 4);
        Due.row("28: learnt", x, 1, 0);
        x.out(14, 2, 1);
        x.put(14, 0, 1);
        Due.is("28: one bead, not of the best", x.knows(), 3);
        Due.row("28: one bead, not of the best", x, 1, 1);
        x.put(14, 2, 1);
        x.put(14, 0, 98);
        Due.is("28: one bead of the best and many others", x.knows(), 3);
        Due.row("28: one bead of the best and many others", x, 2, 0);
        x.side(1);
        Due.is("28: emptied", x.knows(), 0);
        Due.row("28: emptied", x, 0, 0);

        x = new BoxesWithBeads();
        x.side(1);
        x.open(1);
        Due.is("28: the middle and others", x.knows(), 0);
        Due.row("28: the middle and others", x, 1, 0);
        int[] others = {1, 2, 5, 8};
        for (int m : others) {
            x.out(1, m, 4);
        }
        Due.is("28: the middle alone", x.knows(), 1);
        Due.row("28: the middle alone", x, 0, 0);
    }

    private static void shares() {
        BoxesWithBeads x = Due.with("n7/3");
        Due.is("29: unopened", x.share(14), -2);
        Due.is("29: the other SIDE's", x.share(9), -1);
        Due.is("29: can't come", x.share(10 + 2), -1);
        Due.is("29: over", x.share(0), -1);
        Due.is("29: no position", x.share(-1), -1);
        Due.is("29: no position", x.share(16), -1);
        x.open(14);
        Due.is("29: a third, cut", x.share(14), 333);
        x.put(14, 2, 4);
        Due.is("29: a half", x.share(14), 500);
        x.out(14, 0, 3);
        x.out(14, 1, 4);
        Due.is("29: 8 of 9", x.share(14), 888);
        x.out(14, 0, 1);
        Due.is("29: all", x.share(14), 1000);
        x.out(14, 2, 8);
        Due.is("29: no beads", x.share(14), -2);
        x.put(14, 0, 1);
        Due.is("29: none of the best", x.share(14), 0);
        for (int i = 0; i < 40; i++) {
            x.put(14, 2, 99);
        }
        Due.is("29: 3960 of 3961", x.share(14), 999);
        Due.is("29: no row", x.count(16), 0);

        x = new BoxesWithBeads();
        x.side(1);
        x.open(1);
        Due.is("29: one of five kinds", x.share(1), 200);
        Due.is("29: the like ones are one BOX", x.share(6561), 200);
        x.likeness(false);
        x.open(1);
        Due.is("29: one of eight", x.share(1), 125);
        Due.is("29: each its own", x.share(6561), -2);
    }

    private static void errs() {
        BoxesWithBeads x = Due.with("n7/3");
        Due.is("30: unopened", x.errs(14), -1);
        Due.is("30: the other SIDE's", x.errs(9), -1);
        Due.is("30: can't come", x.errs(12), -1);
        Due.is("30: over", x.errs(0), -1);
        Due.is("30: no position", x.errs(-1), -1);
        Due.is("30: no position", x.errs(16), -1);
        x.open(14);
        x.open(8);
        Due.is("30: the least", x.errs(14), 0);
        x.out(14, 0, 4);
        Due.is("30: with beads", x.errs(14), 1);
        x.out(14, 1, 4);
        Due.is("30: none", x.errs(14), -2);
        x.out(14, 2, 4);
        Due.is("30: no beads at all", x.errs(14), -2);
        Due.is("30: nothing to lose", x.errs(8), -2);
        Due.is("30: no row", x.count(16), 0);
    }

    private static void errsByOwnMoves() {
        BoxesWithBeads x = new BoxesWithBeads();
        x.side(1);
        x.open(1);
        Due.is("30: stone at 0", x.errs(1), 1);
        Due.is("30: stone at 8", x.errs(6561), 0);
        Due.is("30: stone at 2", x.errs(9), 0);
        x.out(1, 1, 4);
        x.out(1, 2, 4);
        x.out(1, 5, 4);
        // The opposed corner alone errs now.
        Due.is("30: stone at 0", x.errs(1), 8);
        Due.is("30: stone at 8", x.errs(6561), 0);
        Due.is("30: stone at 2", x.errs(9), 6);
        Due.is("30: stone at 6", x.errs(729), 2);
        x.out(1, 8, 4);
        Due.is("30: none", x.errs(1), -2);
        x.put(1, 5, 1);
        Due.is("30: 5 and 7", x.errs(1), 5);
        Due.is("30: stone at 2: 3 and 7", x.errs(9), 3);
        Due.is("30: stone at 8: 1 and 3", x.errs(6561), 1);
    }
}
