/** Promises 18 to 22: beads, open, put, out, count. */
public final class BeadsTest {
    public static void main(String[] args) {
        beads();
        ledMoves();
        opens();
        opensByLikeness();
        putsAndOuts();
        bagRunsOut();
        counts();
        Due.close("BeadsTest");
    }

    private static void beads() {
        BoxesWithBeads x = Due.with("n5/2", "r0:1");
        Due.is("18: unopened", x.beads(10, 0), -2);
        Due.is("18: unopened", x.beads(10, 1), -2);
        Due.is("18: can't be done, ahead of unopened", x.beads(10, 2), -1);
        Due.is("18: can't be done", x.beads(2, 1), -1);
        Due.is("18: unopened", x.beads(2, 0), -2);
        Due.is("18: the other SIDE's", x.beads(9, 0), -1);
        Due.is("18: can't come", x.beads(8, 0), -1);
        Due.is("18: over", x.beads(0, 0), -1);
        Due.is("18: no position", x.beads(-1, 0), -1);
        Due.is("18: no position", x.beads(12, 0), -1);
        Due.is("18: no move", x.beads(10, -1), -1);
        Due.is("18: no move", x.beads(10, 9), -1);
        Due.is("18: no move", x.beads(10, Integer.MAX_VALUE), -1);
        Due.is("18: no move", x.beads(10, Integer.MIN_VALUE), -1);
        x.open(10);
        Due.is("18: opened", x.beads(10, 0), 4);
        Due.is("18: opened, can't be done", x.beads(10, 2), -1);
        x.fresh(0, 0);
        x.side(0);
        x.open(10);
        Due.is("18: opened without", x.beads(10, 0), 0);
    }

    private static void ledMoves() {
        BoxesWithBeads x = new BoxesWithBeads();
        x.side(1);
        // A stone at the corner 0: kinds are 1, 2, 4, 5, 8 (3, 6, 7 are like 1, 2, 5).
        Due.is("18: five kinds", x.open(1), 20);
        int[] kinds = {1, 2, 4, 5, 8};
        for (int i = 0; i < kinds.length; i++) {
            x.put(1, kinds[i], i + 1);
        }
        int[] corner0 = {-1, 5, 6, 5, 7, 8, 6, 8, 9};
        int[] corner2 = {6, 5, -1, 8, 7, 5, 9, 8, 6};
        int[] corner6 = {6, 8, 9, 5, 7, 8, -1, 5, 6};
        int[] corner8 = {9, 8, 6, 8, 7, 5, 6, 5, -1};
        for (int m = 0; m < 9; m++) {
            Due.is("18: stone at 0, move " + m, x.beads(1, m), corner0[m]);
            Due.is("18: stone at 2, move " + m, x.beads(9, m), corner2[m]);
            Due.is("18: stone at 6, move " + m, x.beads(729, m), corner6[m]);
            Due.is("18: stone at 8, move " + m, x.beads(6561, m), corner8[m]);
        }
        x.side(0);
        // Stones at 0 and 1 leave nothing like; the board's other such ones are led there.
        x.open(7);
        x.put(7, 2, 1);
        x.put(7, 3, 2);
        x.put(7, 4, 3);
        x.put(7, 8, 4);
        Due.is("18: 0 and 3, behind a turn aslant", x.beads(1 + 54, 6), 5);
        Due.is("18: 0 and 3", x.beads(1 + 54, 1), 6);
        Due.is("18: 2 and 5, a quarter turn", x.beads(9 + 486, 8), 5);
        Due.is("18: 2 and 5", x.beads(9 + 486, 1), 6);
        Due.is("18: 2 and 5", x.beads(9 + 486, 4), 7);
        Due.is("18: 2 and 5", x.beads(9 + 486, 6), 8);
        Due.is("18: 6 and 3, the other quarter turn", x.beads(729 + 54, 0), 5);
        Due.is("18: 6 and 3", x.beads(729 + 54, 7), 6);
        Due.is("18: 6 and 3", x.beads(729 + 54, 2), 8);
        Due.is("18: 8 and 7, a half turn", x.beads(6561 + 4374, 6), 5);
        Due.is("18: 8 and 7", x.beads(6561 + 4374, 5), 6);
        Due.is("18: 8 and 7", x.beads(6561 + 4374, 0), 8);
    }

    private static void opens() {
        BoxesWithBeads x = Due.with("n5/2");
        Due.is("19: can't come", x.open(8), -1);
        Due.is("19: over", x.open(0), -1);
        Due.is("19: not THE CHEST's", x.open(9), -1);
        Due.is("19: no position", x.open(-1), -1);
        Due.is("19: no position", x.open(12), -1);
        Due.is("19: none opened", x.count(3), 0);
        x.fresh(0, 20);
        x.fresh(2, 0);
        x.fresh(4, 7);
        Due.is("19: two moves", x.open(10), 40);
        Due.is("19: it is opened", x.open(10), -1);
        Due.is("19: without beads", x.open(6), 0);
        Due.is("19: it is opened too", x.open(6), -1);
        Due.is("19: one move alone", x.open(2), 7);
        Due.is("19: three opened", x.count(3), 3);
        Due.is("19: from the BAG", x.count(1), 10000 - 47);
    }

    private static void opensByLikeness() {
        BoxesWithBeads x = new BoxesWithBeads();
        Due.is("19: three kinds", x.open(0), 12);
        Due.is("19: no likeness at 0 and 1", x.open(7), 28);
        Due.is("19: a like one is the same BOX", x.open(1 + 54), -1);
        Due.is("19: 0 and 4, one line of likeness: 1 2 5 8 and 3 6 7", x.open(1 + 162), 16);
        Due.is("19: opposed corners of unlike stones", x.open(1 + 13122), 16);
        x.likeness(false);
        Due.is("19: each its own", x.open(1 + 162), 28);
        Due.is("19: each its own", x.open(9 + 162), 28);
        x = Due.with("g3x2k3");
        Due.is("19: two kinds", x.open(0), 8);
        x.side(1);
        Due.is("19: a middle one: 0 and 3, 4", x.open(3), 12);
        Due.is("19: a corner leaves all", x.open(1), 20);
        x = Due.with("g2x2k3");
        x.side(1);
        Due.is("19: aslant", x.open(1), 8);
    }

    private static void putsAndOuts() {
        BoxesWithBeads x = Due.with("n5/2");
        Due.is("20: unopened", x.put(10, 0, 1), -1);
        Due.is("21: unopened", x.out(10, 0, 1), -1);
        x.open(10);
        Due.is("20: none", x.put(10, 0, 0), -1);
        Due.is("20: below 0", x.put(10, 0, -1), -1);
        Due.is("20: 100", x.put(10, 0, 100), -1);
        Due.is("20: can't be done", x.put(10, 2, 1), -1);
        Due.is("20: no move", x.put(10, -1, 1), -1);
        Due.is("20: no move", x.put(10, 9, 1), -1);
        Due.is("20: not THE CHEST's", x.put(9, 0, 1), -1);
        Due.is("20: can't come", x.put(8, 0, 1), -1);
        Due.is("20: over", x.put(0, 0, 1), -1);
        Due.is("20: no position", x.put(-1, 0, 1), -1);
        Due.is("20: nothing changed", x.count(0), 8);
        Due.is("20: one", x.put(10, 1, 1), 5);
        Due.is("20: 99", x.put(10, 1, 99), 104);
        Due.is("20: the other one stays", x.beads(10, 0), 4);
        Due.is("20: from the BAG", x.count(1), 10000 - 108);
        Due.is("21: none", x.out(10, 1, 0), -1);
        Due.is("21: below 0", x.out(10, 1, -1), -1);
        Due.is("21: 100", x.out(10, 1, 100), -1);
        Due.is("21: can't be done", x.out(10, 2, 1), -1);
        Due.is("21: not THE CHEST's", x.out(9, 0, 1), -1);
        Due.is("21: no position", x.out(22, 0, 1), -1);
        Due.is("21: has not so many", x.out(10, 0, 5), -1);
        Due.is("21: nothing changed", x.count(0), 108);
        Due.is("21: 99", x.out(10, 1, 99), 5);
        Due.is("21: all", x.out(10, 0, 4), 0);
        Due.is("21: has none", x.out(10, 0, 1), -1);
        Due.is("21: to the BAG", x.count(1), 9995);
        Due.is("21: not SPENT", x.count(2), 0);
        Due.is("20: an empty one", x.put(10, 0, 2), 2);
    }

    private static void bagRunsOut() {
        BoxesWithBeads x = Due.with("n5/3", "f1");
        x.fresh(0, 20);
        x.open(10);
        for (int i = 0; i < 100; i++) {
            Due.is("20: put " + i, x.put(10, 0, 99), 20 + 99 * (i + 1));
        }
        Due.is("20: 40 are left", x.count(1), 40);
        Due.is("20: not so many", x.put(10, 0, 41), -1);
        Due.is("20: 35", x.put(10, 0, 35), 9955);
        Due.is("20: 5 are left", x.count(1), 5);
        // Left 3 of 5: two moves away, three MOVES: 4 beads, 1 bead, none.
        Due.is("19: as far as the BAG has", x.open(6), 5);
        Due.is("19: the first", x.beads(6, 0), 4);
        Due.is("19: the second", x.beads(6, 1), 1);
        Due.is("19: the third", x.beads(6, 2), 0);
        Due.is("19: the BAG has none", x.count(1), 0);
        Due.is("20: not one", x.put(10, 0, 1), -1);
        Due.is("19: opened without", x.open(4), 0);
        Due.is("19: it is opened", x.open(4), -1);
        Due.is("21: one back", x.out(10, 0, 1), 9954);
        Due.is("20: the last one", x.put(4, 1, 1), 1);
        Due.is("22: all are in BOXES", x.count(0), 10000);
    }

    private static void counts() {
        BoxesWithBeads x = Due.with("n5/2", "r0:1", "f1");
        Due.is("22: below", x.count(-1), -1);
        Due.is("22: above", x.count(17), -1);
        Due.is("22: least", x.count(Integer.MIN_VALUE), -1);
        Due.is("22: greatest", x.count(Integer.MAX_VALUE), -1);
        x.open(10);
        x.open(6);
        x.open(2);
        x.out(10, 0, 4);
        x.out(2, 0, 4);
        Due.is("22: in BOXES", x.count(0), 12);
        Due.is("22: in the BAG", x.count(1), 9988);
        Due.is("22: SPENT", x.count(2), 0);
        Due.is("22: opened", x.count(3), 3);
        Due.is("22: without beads", x.count(4), 1);
        Due.is("22: of one MOVE alone", x.count(5), 1);
        x.put(2, 0, 2);
        Due.is("22: of one MOVE alone, for there is one", x.count(5), 2);
        Due.is("22: without beads", x.count(4), 0);
        x.out(6, 1, 4);
        x.out(6, 0, 3);
        Due.is("22: one bead is of one MOVE alone", x.count(5), 3);
        Due.is("22: and not without", x.count(4), 0);
        Due.rule(x, "l-2");
        Due.rule(x, "w+1");
        x.pay(0);
        x.side(1);
        x.side(0);
        // 16838 % 8 = 6: two are taken; then one; of 2 left 38526 % 8 = 6: two are taken: WON.
        Due.is("22: a game", x.play(0), 2);
        Due.is("22: games", x.count(6), 1);
        Due.is("22: WON", x.count(7), 1);
        Due.is("22: DRAWN", x.count(8), 0);
        Due.is("22: LOST", x.count(9), 0);
        Due.is("22: RESIGNED", x.count(10), 0);
        Due.is("22: RULES", x.count(11), 2);
        Due.is("22: FOES", x.count(12), 2);
        Due.is("22: THE RULE", x.count(13), 0);
        Due.is("22: SIDE", x.count(14), 0);
        x.sign(0);
        Due.is("22: signs", x.count(15), 4);
        Due.is("22: the ROW", x.count(16), 3);
        x.out(10, 0, 4);
        x.out(10, 1, 4);
        Due.is("22: RESIGNS", x.play(0), 3);
        Due.is("22: games", x.count(6), 2);
        Due.is("22: LOST", x.count(9), 1);
        Due.is("22: RESIGNED", x.count(10), 1);
        Due.is("22: the ROW is empty", x.count(16), 0);
        Due.game(x, "g1x1k3");
        Due.is("22: a drawn one", x.play(0), 1);
        Due.is("22: DRAWN", x.count(8), 1);
        x.likeness(false);
        Due.is("22: three in all stay", x.count(6), 3);
    }
}
