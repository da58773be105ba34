/** Promises 33 to 35: keep, again, join. */
public final class KeptTest {
    public static void main(String[] args) {
        keepAndAgain();
        keptGoesOut();
        joins();
        joinsUntilTheBagIsEmpty();
        joinsLike();
        Due.close("KeptTest");
    }

    private static void keepAndAgain() {
        BoxesWithBeads x = Due.with("n5/2", "m1");
        Due.is("33: -1", x.keep(-1), false);
        Due.is("33: 3", x.keep(3), false);
        Due.is("34: nothing kept", x.again(0), false);
        Due.is("34: -1", x.again(-1), false);
        Due.is("34: 3", x.again(3), false);
        Due.is("33: an empty one", x.keep(2), true);
        x.open(10);
        Due.rule(x, "l-1");
        x.pay(0);
        x.seed(5);
        Due.is("33: kept", x.keep(0), true);
        x.run(0, 4);
        int spent = x.count(2);
        int seed = x.seed(77);
        Due.is("33: another", x.keep(1), true);
        Due.is("34: the first", x.again(0), true);
        Due.is("34: BOXES", x.count(3), 1);
        Due.is("34: beads", x.beads(10, 0) + x.beads(10, 1), 8);
        Due.is("34: the BAG", x.count(1), 9992);
        Due.is("34: SPENT", x.count(2), 0);
        Due.is("34: R", x.seed(5), 5);
        Due.is("34: games stay", x.count(6), 4);
        Due.is("34: THE RULE stays", x.count(13), 0);
        x.run(0, 4);
        Due.is("34: the same games once more", x.count(2), spent);
        Due.is("34: the same R", x.seed(1), seed);
        Due.is("34: the second", x.again(1), true);
        Due.is("34: its R", x.seed(1), 77);
        Due.is("34: its SPENT", x.count(2), spent);
        Due.is("34: the empty one", x.again(2), true);
        Due.is("34: empty", x.count(0), 0);
        Due.is("34: nothing opened", x.count(3), 0);
        Due.is("34: full", x.count(1), 10000);
        Due.is("34: the first once more", x.again(0), true);
        x.put(10, 0, 5);
        Due.is("34: what is kept does not change", x.again(0), true);
        Due.is("34: beads", x.beads(10, 0), 4);
        x.put(10, 0, 9);
        Due.is("33: kept over it", x.keep(0), true);
        x.out(10, 0, 9);
        Due.is("34: the later one", x.again(0), true);
        Due.is("34: beads", x.beads(10, 0), 13);
        Due.is("34: no row", x.count(16) == 3, true);
    }

    private static void keptGoesOut() {
        for (int how = 0; how < 6; how++) {
            BoxesWithBeads x = Due.with("n5/2");
            x.open(10);
            x.keep(0);
            x.keep(2);
            boolean goesOut = true;
            switch (how) {
                case 0: Due.is("34: a game", Due.game(x, "n5/2"), 0); break;
                case 1: Due.is("34: a side, the same", x.side(0), 0); break;
                case 2: Due.is("34: a side", x.side(1), 0); break;
                case 3: Due.is("34: likeness, the same", x.likeness(true), true); break;
                case 4: Due.is("34: a game refused", Due.game(x, "n5/4"), -4); goesOut = false; break;
                default: Due.is("34: a side refused", x.side(2), -1); goesOut = false; break;
            }
            Due.is("35: kept ones, " + how, x.join(2), goesOut ? -1 : 8);
            Due.is("34: kept ones, " + how, x.again(0), !goesOut);
            Due.is("34: kept ones, " + how, x.again(2), !goesOut);
            Due.is("34: beads, " + how, x.count(0), goesOut ? 0 : 8);
            Due.is("33: kept anew", x.keep(2), true);
            Due.is("34: kept anew", x.again(2), true);
            Due.is("34: the other is not", x.again(0), !goesOut);
        }
    }

    private static void joins() {
        BoxesWithBeads x = Due.with("n5/2");
        Due.is("35: nothing kept", x.join(0), -1);
        Due.is("35: -1", x.join(-1), -1);
        Due.is("35: 3", x.join(3), -1);
        x.open(10);
        x.out(10, 1, 1);
        x.open(6);
        x.out(6, 0, 4);
        x.out(6, 1, 4);
        x.keep(0);
        Due.is("35: all its own once more", x.join(0), 7);
        Due.is("35: by MOVES", x.beads(10, 0), 8);
        Due.is("35: by MOVES", x.beads(10, 1), 6);
        Due.is("35: from the BAG", x.count(1), 10000 - 14);
        x.likeness(true);
        x.open(10);
        x.keep(1);
        x.side(0);
        x.open(6);
        x.out(6, 1, 3);
        x.keep(1);
        x.side(0);
        Due.is("35: gone out", x.join(1), -1);

        x = Due.with("n5/2");
        x.keep(2);
        x.open(10);
        x.put(10, 1, 2);
        x.open(2);
        x.out(2, 0, 4);
        x.seed(44);
        x.keep(0);
        x.again(2);
        x.open(4);
        x.seed(55);
        Due.is("35: opened with these alone", x.join(0), 10);
        Due.is("35: beads", x.beads(10, 0), 4);
        Due.is("35: beads", x.beads(10, 1), 6);
        Due.is("35: opened there, opened here", x.beads(2, 0), 0);
        Due.is("35: not opened there", x.beads(6, 0), -2);
        Due.is("35: its own stay", x.beads(4, 1), 4);
        Due.is("35: opened", x.count(3), 3);
        Due.is("35: R stays", x.seed(1), 55);
        Due.is("35: none at all", x.join(2), 0);
        Due.is("35: it is still kept", x.again(0), true);
        Due.is("35: as it was", x.count(0), 10);
        Due.is("35: no row", x.count(16), 0);
    }

    private static void joinsUntilTheBagIsEmpty() {
        BoxesWithBeads x = Due.with("n5/2");
        x.keep(1);
        x.open(10);
        x.open(6);
        x.open(2);
        x.keep(0);
        x.again(1);
        x.open(4);
        int left = 10000 - 8 - 9;
        while (left > 0) {
            int n = Math.min(99, left);
            x.put(4, 0, n);
            left -= n;
        }
        Due.is("35: 9 in the BAG", x.count(1), 9);
        Due.is("35: as far as it has", x.join(0), 9);
        Due.is("35: the least POSITION first", x.beads(2, 0), 4);
        Due.is("35: then the next", x.beads(6, 0), 4);
        Due.is("35: MOVE by MOVE", x.beads(6, 1), 1);
        Due.is("35: the last is opened", x.beads(10, 0), 0);
        Due.is("35: the BAG", x.count(1), 0);
        Due.is("35: no more", x.join(0), 0);
        Due.is("35: opened", x.count(3), 4);
    }

    private static void joinsLike() {
        BoxesWithBeads x = new BoxesWithBeads();
        x.side(1);
        x.open(6561);
        x.put(6561, 0, 3);
        x.keep(0);
        Due.is("35: twice", x.join(0), 23);
        Due.is("35: by the BOX", x.beads(1, 8), 14);
        Due.is("35: by the BOX", x.beads(1, 4), 8);
    }
}
