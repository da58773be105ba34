/** Promises 7 to 12: side, likeness, fresh, sheet, pay, seed. */
public final class SetUpTest {
    public static void main(String[] args) {
        sides();
        likeness();
        fresh();
        sheets();
        sheetsLand();
        pays();
        seeds();
        Due.close("SetUpTest");
    }

    private static void sides() {
        BoxesWithBeads x = Due.with("n4/2", "m1");
        Due.is("7: SIDE 0 begins", x.open(8), 8);
        Due.is("7: refused 2", x.side(2), -1);
        Due.is("7: refused -1", x.side(-1), -1);
        Due.is("7: nothing changed", x.count(0), 8);
        Due.is("7: what it was", x.side(0), 0);
        Due.is("7: the same SIDE empties too", x.count(0), 0);
        Due.is("7: unopened", x.beads(8, 0), -2);
        Due.is("7: SIDE 1", x.side(1), 0);
        Due.is("7: count(14)", x.count(14), 1);
        Due.is("7: not THE CHEST's", x.open(8), -1);
        Due.is("7: THE CHEST's", x.open(7), 8);
        Due.is("7: back", x.side(0), 1);
        Due.is("7: emptied", x.count(3), 0);
        Due.is("7: into the BAG", x.count(1), 10000);
    }

    private static void likeness() {
        BoxesWithBeads x = Due.with("g2x2k2");
        Due.is("8: one kind of 4", x.open(0), 4);
        Due.is("8: was on", x.likeness(false), true);
        Due.is("8: emptied", x.count(0), 0);
        Due.is("8: unopened", x.beads(0, 0), -2);
        Due.is("8: each has its own", x.open(0), 16);
        Due.is("8: one's own", x.put(0, 3, 5), 9);
        Due.is("8: not the like one's", x.beads(0, 0), 4);
        Due.is("8: BOXES of their own", x.like(9), 9);
        Due.is("8: was off", x.likeness(false), false);
        Due.is("8: the same empties too", x.count(3), 0);
        Due.is("8: was off", x.likeness(true), false);
        Due.is("8: like again", x.like(9), 1);
        Due.is("8: into the BAG", x.count(1), 10000);
    }

    private static void fresh() {
        BoxesWithBeads x = Due.with("n20/1");
        Due.is("9: s below 0", x.fresh(-1, 1), -1);
        Due.is("9: s above 20", x.fresh(21, 1), -1);
        Due.is("9: v below 0", x.fresh(0, -1), -1);
        Due.is("9: v above 20", x.fresh(0, 21), -1);
        Due.is("9: was 4", x.fresh(0, 20), 4);
        Due.is("9: was 20", x.fresh(0, 0), 20);
        Due.is("9: was 0", x.fresh(0, 7), 0);
        Due.is("9: 20 too", x.fresh(20, 1), 4);
        Due.is("9: by what is gone of the heap", x.fresh(2, 9), 4);
        Due.is("9: none gone", x.open(40), 7);
        Due.is("9: two gone", x.open(36), 9);
        Due.is("9: four gone", x.open(32), 4);
        Due.is("9: opened ones stay", x.fresh(2, 1), 9);
        Due.is("9: opened ones stay", x.beads(36, 0), 9);
        Due.is("9: a heap of one", Due.game(x, "n1/1"), 0);
        Due.is("9: none gone", x.open(2), 7);
        Due.is("9: a board", Due.game(x, "g3x1k3"), 0);
        Due.is("9: no stones", x.open(0), 14);
        Due.is("9: two stones, one place of each kind", x.open(1 + 2 * 3), 1);
    }

    private static void sheets() {
        BoxesWithBeads x = new BoxesWithBeads();
        Due.is("10: another kind", x.sheet(-1, 1, 1, 1), -1);
        Due.is("10: another kind", x.sheet(4, 1, 1, 1), -1);
        Due.is("10: another kind ahead of n", x.sheet(4, -1, 1, 1), -1);
        Due.is("10: n of 22", x.sheet(0, 22, 1, 1), -1);
        Due.is("10: n of 22", x.sheet(1, 22, 1, 1), -1);
        Due.is("10: n of 22", x.sheet(2, 22, 1, 1), -1);
        Due.is("10: n of 22 of a missing one", x.sheet(3, 22, 1, 1), -1);
        Due.is("10: n below 0, of bytes", x.sheet(0, -1, 1, 1), -2);
        Due.is("10: n below 0, of shorts", x.sheet(1, -1, 1, 1), -2);
        Due.is("10: n below 0, of ints", x.sheet(2, Integer.MIN_VALUE, 1, 1), -2);
        for (int s = 0; s <= 20; s++) {
            Due.is("10: nothing changed", x.fresh(s, 4), 4);
        }
        Due.is("10: 1, 3, 5", x.sheet(2, 3, 1, 2), 9);
        Due.is("10: first", x.fresh(0, 1), 1);
        Due.is("10: third", x.fresh(2, 5), 5);
        Due.is("10: behind them", x.fresh(3, 0), 0);
        Due.is("10: behind them", x.fresh(20, 0), 0);
        Due.is("10: 0 to 20", x.sheet(2, 21, 0, 1), 210);
        Due.is("10: 0 to 20, of bytes", x.sheet(0, 21, 0, 1), 210);
        Due.is("10: down", x.sheet(1, 21, 20, -1), 210);
        Due.is("10: below 0", x.sheet(2, 4, 1, -1), 1);
        Due.is("10: none", x.sheet(2, 0, 5, 5), 0);
        Due.is("10: all 0", x.fresh(0, 3), 0);
        Due.is("10: missing", x.sheet(3, 5, 5, 5), -3);
        Due.is("10: missing: all 0", x.fresh(0, 3), 0);
        Due.is("10: missing, n below 0", x.sheet(3, -1, 5, 5), -3);
        Due.is("10: missing, n of 21", x.sheet(3, 21, 5, 5), -3);
        Due.is("10: all 0", x.fresh(0, 3), 0);
    }

    private static void sheetsLand() {
        BoxesWithBeads x = new BoxesWithBeads();
        Due.is("10: a byte of 300 is 44, so 20", x.sheet(0, 1, 300, 0), 20);
        Due.is("10: a byte of 260 is 4", x.sheet(0, 1, 260, 0), 4);
        Due.is("10: a byte of 200 is below 0", x.sheet(0, 2, 200, 0), 0);
        Due.is("10: a byte of 127", x.sheet(0, 1, 127, 0), 20);
        Due.is("10: a byte of 128", x.sheet(0, 1, 128, 0), 0);
        Due.is("10: a short of 300", x.sheet(1, 1, 300, 0), 20);
        Due.is("10: a short of 65540 is 4", x.sheet(1, 1, 65540, 0), 4);
        Due.is("10: a short of 40000 is below 0", x.sheet(1, 1, 40000, 0), 0);
        Due.is("10: a short of -65533 is 3", x.sheet(1, 1, -65533, 0), 3);
        Due.is("10: an int of 65540", x.sheet(2, 1, 65540, 0), 20);
        Due.is("10: an int of -65533", x.sheet(2, 1, -65533, 0), 0);
        Due.is("10: ints go round", x.sheet(2, 2, Integer.MAX_VALUE, 1), 20);
        Due.is("10: ints go round", x.sheet(2, 3, Integer.MAX_VALUE, Integer.MAX_VALUE), 40);
        Due.is("10: 20 stays, 21 is 20", x.sheet(2, 3, 19, 1), 59);
    }

    private static void pays() {
        BoxesWithBeads x = Due.with("n1/1", "f1");
        Due.is("11: none such", x.pay(0), -2);
        Due.is("11: none such", x.pay(-2), -2);
        Due.is("11: none", x.pay(-1), -1);
        Due.is("11: a rule", Due.rule(x, "w+1"), 0);
        Due.is("11: a rule", Due.rule(x, "w+9"), 1);
        Due.is("11: told ones don't pay yet", x.play(0), 2);
        Due.is("11: 4 stay", x.beads(2, 0), 4);
        Due.is("11: was none", x.pay(1), -1);
        Due.is("11: count(13)", x.count(13), 1);
        Due.is("11: none such", x.pay(2), -2);
        Due.is("11: none such", x.pay(Integer.MAX_VALUE), -2);
        Due.is("11: nothing changed", x.count(13), 1);
        x.play(0);
        Due.is("11: 9 more", x.beads(2, 0), 13);
        Due.is("11: was 1", x.pay(0), 1);
        x.play(0);
        Due.is("11: 1 more", x.beads(2, 0), 14);
        Due.is("11: from the BAG", x.count(1), 9986);
        Due.is("11: none are SPENT", x.count(2), 0);
        Due.is("11: was 0", x.pay(-1), 0);
        x.play(0);
        Due.is("11: none more", x.beads(2, 0), 14);
        Due.is("11: was none", x.pay(-1), -1);
    }

    private static void seeds() {
        BoxesWithBeads x = Due.with("n1/1", "f1");
        Due.is("12: at first 1", x.seed(7), 1);
        Due.is("12: 7", x.seed(1), 7);
        x.play(0);
        Due.is("12: one DRAW", x.seed(-5), 1103527590);
        Due.is("12: below 0", x.seed(Integer.MIN_VALUE), -5);
        Due.is("12: the least", x.seed(Integer.MAX_VALUE), Integer.MIN_VALUE);
        Due.is("12: the greatest", x.seed(0), Integer.MAX_VALUE);
    }
}
