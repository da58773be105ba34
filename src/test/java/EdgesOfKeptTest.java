import java.util.function.Supplier;

/** The edges that promises 33 to 35 name, each by itself. */
public final class EdgesOfKeptTest {
    private static final int[] FAR = {-1, -2, 3, 4, 100, Integer.MIN_VALUE, Integer.MAX_VALUE};

    public static void main(String[] args) {
        keepsRefused();
        keepsTaken();
        keepsFour();
        againRefused();
        againOnceMore();
        againLeaves();
        goesOutByCalls();
        staysInByOthers();
        joinsRefused();
        joinsNone();
        joinsUnopened();
        joinsWithTheBag();
        joinsAllThere();
        joinsOfItself();
        Due.close("EdgesOfKeptTest");
    }

    // 33: "THE CHEST (BOXES, BAG, SPENT, R) is kept under a number 0 .. 2: true. Refused: others."

    private static void keepsRefused() {
        for (int i : FAR) {
            Whole.stays("33: keep(" + i + ")", x -> x.keep(i) ? 1 : 0, 0);
        }
    }

    private static void keepsTaken() {
        for (int i = 0; i <= 2; i++) {
            int of = i;
            BoxesWithBeads x = Whole.heap();
            BoxesWithBeads y = Whole.heap();
            Due.is("33: keep(" + i + ")", x.keep(i), true);
            Due.same("33: the ROW stays", Due.rowOf(x), Due.rowOf(y));
            for (int other = 0; other <= 2; other++) {
                Due.is("33: under " + other, x.again(other), other == of || other == 1);
            }
            // Of nothing: an empty chest can be kept too.
            x = new BoxesWithBeads();
            Due.is("33: an empty one", x.keep(i), true);
            x.open(0);
            x.seed(9);
            Due.is("34: it is empty again", x.again(i), true);
            Due.is("34: no beads", x.count(0), 0);
            Due.is("34: unopened", x.beads(0, 0), -2);
            Due.is("34: R", x.seed(1), 1);
        }
        Whole.stays("33: what is kept is kept so already", () -> {
            BoxesWithBeads x = Whole.heap();
            x.keep(0);
            x.keep(2);
            return x;
        }, x -> x.keep(0) && x.keep(2) ? 1 : 0, 1);
    }

    /** "(BOXES, BAG, SPENT, R)". */
    private static void keepsFour() {
        Supplier<BoxesWithBeads> made = () -> {
            BoxesWithBeads x = Due.with("n1/1m", "f1");
            Due.rule(x, "l-3");
            x.pay(0);
            x.run(0, 1);
            x.seed(41);
            x.keep(0);
            return x;
        };
        BoxesWithBeads x = made.get();
        x.put(2, 0, 98);
        x.run(0, 2);
        x.seed(5);
        Due.is("34: again", x.again(0), true);
        Due.is("34: beads", x.beads(2, 0), 1);
        Due.is("34: BAG", x.count(1), 9996);
        Due.is("34: SPENT", x.count(2), 3);
        Due.is("34: R", x.seed(41), 41);
        Due.is("34: GAMES PLAYED are not kept", x.count(6), 3);
        Due.is("34: LOST", x.count(9), 3);
        x.fresh(0, 7);
        x.pay(-1);
        Due.text(x, "f1");
        Due.is("34: again", x.again(0), true);
        Due.is("34: FRESH is not kept", x.fresh(0, 7), 7);
        Due.is("34: THE RULE is not kept", x.count(13), -1);
        Due.is("34: THE TEXT is not kept", x.count(15), 2);
    }

    // 34: "It is as it was kept under a number. Refused: nothing kept, a game(), side() or likeness() since that was
    // taken."

    private static void againRefused() {
        for (int i : FAR) {
            Whole.stays("34: again(" + i + ")", x -> x.again(i) ? 1 : 0, 0);
        }
        // 1 alone is kept.
        Whole.stays("34: nothing kept under 0", x -> x.again(0) ? 1 : 0, 0);
        Whole.stays("34: nothing kept under 2", x -> x.again(2) ? 1 : 0, 0);
    }

    private static void againOnceMore() {
        BoxesWithBeads x = Whole.heap();
        for (int i = 0; i < 3; i++) {
            Due.is("34: again and again", x.again(1), true);
            x.run(0, 5);
            x.put(18, 0, 9);
        }
        Whole.becomes("34: twice is once", Whole::heap, y -> y.again(1) && y.again(1) ? 1 : 0, 1, y -> y.again(1) ? 1 : 0);
        // Kept over what was kept.
        x = Due.with("n5/2");
        x.keep(0);
        x.open(10);
        x.keep(0);
        x.out(10, 0, 1);
        Due.is("34: the later one", x.again(0), true);
        Due.is("34: the later one", x.beads(10, 0), 4);
    }

    private static void againLeaves() {
        BoxesWithBeads x = Whole.heap();
        BoxesWithBeads y = Whole.heap();
        x.again(1);
        for (int what = 6; what <= 16; what++) {
            Due.is("34: count " + what + " stays", x.count(what), y.count(what));
        }
        Due.same("34: the ROW stays", Due.rowOf(x), Due.rowOf(y));
        for (int s = 0; s <= 20; s++) {
            Due.is("34: FRESH stays", x.fresh(s, 1), y.fresh(s, 1));
        }
        Due.is("34: what was WATCHED stays", x.fits(), y.fits());
    }

    private static void goesOut(String what, Whole.Call call, long want) {
        for (int i = 0; i <= 2; i++) {
            BoxesWithBeads x = Whole.heap();
            x.keep(i);
            Due.is("34: " + what, call.on(x), want);
            Due.is("34: " + what + ": again(" + i + ")", x.again(i), false);
            Due.is("35: " + what + ": join(" + i + ")", x.join(i), -1);
            Due.is("33: kept since", x.keep(i), true);
            Due.is("34: kept since", x.again(i), true);
            Due.is("35: kept since", x.join(i), x.count(0) / 2);
        }
    }

    private static void goesOutByCalls() {
        goesOut("game(), another", x -> Due.game(x, "n8/3"), 0);
        goesOut("game(), the same", x -> Due.game(x, "n9/3"), 0);
        goesOut("side(), another", x -> x.side(1), 0);
        goesOut("side(), the same", x -> x.side(0), 0);
        goesOut("likeness(), another", x -> x.likeness(false) ? 1 : 0, 1);
        goesOut("likeness(), the same", x -> x.likeness(true) ? 1 : 0, 1);
        // There and back again is no way back.
        goesOut("side() twice", x -> x.side(1) + x.side(0), 1);
        goesOut("likeness() twice", x -> x.likeness(false) && !x.likeness(true) ? 1 : 0, 1);
        goesOut("game() twice", x -> Due.game(x, "n3/1") + Due.game(x, "n9/3"), 0);
    }

    private static void staysIn(String what, Whole.Call call) {
        BoxesWithBeads x = Whole.heap();
        BoxesWithBeads y = Whole.heap();
        call.on(x);
        Due.is("34: " + what, x.again(1), true);
        y.again(1);
        for (int no = 0; no <= 5; no++) {
            Due.is("34: " + what + ": count " + no, x.count(no), y.count(no));
        }
        for (int p : new int[] {18, 14, 12, 8, 2}) {
            Due.is("34: " + what + ": beads of " + p, x.beads(p, 0), y.beads(p, 0));
        }
        Due.is("34: " + what + ": R", Whole.random(x), Whole.random(y));
    }

    private static void staysInByOthers() {
        staysIn("a game() that is none", x -> Due.game(x, "n9/4"));
        staysIn("a refused side()", x -> x.side(2) + x.side(-1));
        staysIn("a RULE", x -> Due.rule(x, "w+1"));
        staysIn("a FOE", x -> Due.foe(x, "m1"));
        staysIn("FRESH", x -> x.fresh(0, 0) + x.sheet(3, 0, 0, 0));
        staysIn("THE RULE", x -> x.pay(1));
        staysIn("R", x -> x.seed(8));
        staysIn("a bead more", x -> x.put(18, 0, 1));
        staysIn("beads less", x -> x.out(18, 0, 1));
        staysIn("a BOX more", x -> x.open(16) + x.open(8) + x.open(2));
        staysIn("GAMES", x -> x.play(0) + x.run(1, 50) + x.come(0, 10));
        staysIn("looking", x -> x.odds(0) + x.ways(0, 1) + x.teach(7, 9, 0) + x.few(0, 9) + x.knows());
        staysIn("another one kept", x -> x.keep(0) && x.keep(2) ? 1 : 0);
        staysIn("another one again", x -> x.keep(0) && x.again(0) ? 1 : 0);
        staysIn("itself joined", x -> x.join(1) + x.join(1));
    }

    // 35: "All beads of a kept chest's BOXES come to THE CHEST's, MOVE by MOVE (a BOX that is unopened here is opened
    // with these alone), from the BAG, BOX by BOX by POSITION, as far as it has: how many (a BOX that is opened there is
    // opened here then). NONE: as again()."

    private static void joinsRefused() {
        for (int i : FAR) {
            Whole.stays("35: join(" + i + ")", x -> x.join(i), -1);
        }
        Whole.stays("35: nothing kept under 0", x -> x.join(0), -1);
        Whole.stays("35: nothing kept under 2", x -> x.join(2), -1);
    }

    private static void joinsNone() {
        Whole.stays("35: an empty one", () -> {
            BoxesWithBeads x = Due.with("n9/3", "f1");
            x.keep(0);
            x.open(18);
            x.open(8);
            x.out(8, 0, 4);
            Due.text(x, "f2");
            return x;
        }, x -> x.join(0), 0);
        // BOXES without beads are opened all the same.
        BoxesWithBeads x = Due.with("n9/3");
        x.keep(1);
        x.fresh(0, 0);
        x.open(18);
        x.keep(0);
        x.again(1);
        Due.is("35: unopened", x.beads(18, 0), -2);
        Due.is("35: no beads at all", x.join(0), 0);
        Due.is("35: opened here then", x.beads(18, 0), 0);
        Due.is("35: opened here then", x.count(3), 1);
        Due.is("35: without beads", x.count(4), 1);
        Due.is("35: the others are not", x.beads(14, 0), -2);
        Due.is("19: it is opened", x.open(18), -1);
    }

    /** FRESH beads don't come to it; its own beads stay. */
    private static void joinsUnopened() {
        BoxesWithBeads x = Due.with("n9/3");
        x.keep(1);
        x.open(18);
        x.out(18, 0, 4);
        x.out(18, 1, 3);
        x.open(14);
        x.keep(0);
        x.again(1);
        x.open(14);
        x.put(14, 2, 5);
        x.open(8);
        Due.is("35: 5 and 12", x.join(0), 17);
        Due.is("35: with these alone", x.beads(18, 0), 0);
        Due.is("35: with these alone", x.beads(18, 1), 1);
        Due.is("35: with these alone", x.beads(18, 2), 4);
        Due.is("35: both", x.beads(14, 0), 8);
        Due.is("35: both", x.beads(14, 2), 13);
        Due.is("35: its own", x.beads(8, 0), 4);
        Due.is("35: from the BAG", x.count(1), 10000 - 17 - 17 - 12);
        Due.is("35: none are SPENT", x.count(2), 0);
    }

    private static void joinsWithTheBag() {
        for (int bag = 0; bag <= 14; bag++) {
            BoxesWithBeads x = Due.with("n6/2");
            x.keep(1);
            x.fresh(0, 2);
            x.fresh(2, 2);
            x.fresh(4, 3);
            x.open(12);
            x.open(8);
            x.open(4);
            x.keep(0);
            x.again(1);
            x.open(6);
            for (int left = x.count(1) - bag; left > 0; left -= 99) {
                x.put(6, 0, Math.min(99, left));
            }
            // 2 left: 3 and 3; 4 left: 2 and 2; 6 left: 2 and 2.
            Due.is("35: of " + bag, x.join(0), bag);
            int[] positions = {4, 8, 12};
            int[] each = {3, 2, 2};
            int come = bag;
            for (int i = 0; i < 3; i++) {
                for (int m = 0; m < 2; m++) {
                    int n = Math.min(each[i], come);
                    Due.is("35: of " + bag + " to " + positions[i] + ", MOVE " + m, x.beads(positions[i], m), n);
                    come -= n;
                }
            }
            Due.is("35: the BAG of " + bag, x.count(1), 0);
            Due.is("35: all are opened", x.count(3), 4);
            Due.is("35: what is kept stays", x.again(0), true);
            Due.is("35: what is kept stays", x.count(0), 14);
        }
        // One more than enough.
        BoxesWithBeads x = Due.with("n6/2");
        x.open(12);
        x.keep(0);
        for (int left = x.count(1) - 9; left > 0; left -= 99) {
            x.put(12, 0, Math.min(99, left));
        }
        Due.is("35: 8 of 9", x.join(0), 8);
        Due.is("35: one is left", x.count(1), 1);
        Due.is("35: 1 of 8", x.join(0), 1);
        Due.is("35: 0 of 8", x.join(0), 0);
    }

    /** BOX by BOX by POSITION, of a board, the first and the last BOX of all. */
    private static void joinsAllThere() {
        int eight = 1 + 6 + 9 + 54 + 81 + 243 + 1458 + 4374;
        BoxesWithBeads x = new BoxesWithBeads();
        x.likeness(false);
        x.keep(1);
        x.open(eight);
        x.open(0);
        x.open(1 + 13122);
        x.keep(0);
        int many = x.count(0);
        x.again(1);
        x.open(7);
        for (int left = x.count(1) - 37; left > 0; left -= 99) {
            x.put(7, 2, Math.min(99, left));
        }
        Due.is("35: 37 of " + many, x.join(0), 37);
        Due.is("35: the least first", x.beads(0, 8), 4);
        Due.is("35: the next has one", x.beads(eight, 8), 1);
        Due.is("35: the last has none", x.beads(1 + 13122, 1), 0);
    }

    private static void joinsOfItself() {
        BoxesWithBeads x = Due.with("n9/3");
        x.open(18);
        x.keep(0);
        for (int i = 2; i <= 20; i++) {
            Due.is("35: once more", x.join(0), 12);
            Due.is("35: so many", x.beads(18, 0), 4 * i);
        }
        Due.is("34: what is kept stays", x.again(0), true);
        Due.is("34: what is kept stays", x.beads(18, 0), 4);
        // R and SPENT of the kept one don't come.
        x = Due.with("n1/1m", "f1");
        Due.rule(x, "l-3");
        x.pay(0);
        x.keep(1);
        x.run(0, 1);
        x.seed(99);
        x.keep(0);
        x.again(1);
        x.seed(7);
        Due.is("35: one bead", x.join(0), 1);
        Due.is("35: SPENT stay", x.count(2), 0);
        Due.is("35: R stays", x.seed(1), 7);
        Due.is("35: the BAG", x.count(1), 9999);
    }
}
