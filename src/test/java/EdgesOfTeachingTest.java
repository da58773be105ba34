import java.util.function.Supplier;

/** The edges that promises 31 and 32 name, each by itself. */
public final class EdgesOfTeachingTest {
    private static final long ALL = 1000000000L;

    public static void main(String[] args) {
        teachesRefused();
        teachesByBits();
        teachesByGames();
        teachesOfEqual();
        teachesChangesTheRow();
        teachesWonTwice();
        fewRefused();
        fewByBeads();
        fewByGames();
        fewOfTheBag();
        fewFromEmptied();
        fewChangesNothing();
        Due.close("EdgesOfTeachingTest");
    }

    private static BoxesWithBeads withFoes(int n) {
        BoxesWithBeads x = Due.with("n6/2");
        String[] foes = {"f1", "m1", "t1", "r0:1", "r1:1", "f1;m1", "f2;t1", "m1;t3"};
        for (int i = 0; i < n; i++) {
            Due.foe(x, foes[i]);
        }
        Due.rule(x, "w+2;l-1");
        x.pay(0);
        return x;
    }

    // 31: "All orders of FOES told as bits (one to three): n GAMES (0 .. 50) PLAYED against each .. How many FOES;
    // nothing changes. NONE: others."

    private static void teachesRefused() {
        // Three FOES: bits 1, 2 and 4.
        for (int foes : new int[] {0, -1, -8, 8, 9, 15, 16, 255, 256, 1 << 30, Integer.MIN_VALUE, Integer.MAX_VALUE}) {
            Whole.stays("31: FOES " + foes + " of 3", x -> x.teach(foes, 1, 0), -1);
        }
        for (int n : new int[] {-1, -2, 51, 52, Integer.MIN_VALUE, Integer.MAX_VALUE}) {
            Whole.stays("31: " + n + " GAMES", x -> x.teach(1, n, 0), -1);
            Whole.stays("31: " + n + " GAMES", x -> x.teach(7, n, 2), -1);
        }
        for (int test : new int[] {-1, -2, 3, 4, 8, Integer.MIN_VALUE, Integer.MAX_VALUE}) {
            Whole.stays("31: against FOE " + test + " of 3", x -> x.teach(1, 1, test), -1);
        }
        Due.is("31: no FOES", new BoxesWithBeads().teach(1, 0, 0), -1);
    }

    /** One, two and three bits may be; none and four may not; bits of FOES that are told alone. */
    private static void teachesByBits() {
        for (int n = 1; n <= 8; n++) {
            BoxesWithBeads x = withFoes(n);
            int asked = 0;
            for (int foes = 0; foes <= 256 && asked < 300; foes++) {
                int many = Integer.bitCount(foes);
                if (n == 8 && many > 1 && foes % 5 != 0) {
                    continue;
                }
                asked++;
                boolean may = foes < 1 << n && many >= 1 && many <= 3;
                Due.is("31: FOES " + foes + " of " + n, x.teach(foes, 0, 0), may ? many : -1);
            }
        }
        BoxesWithBeads x = withFoes(8);
        Due.is("31: the last one alone", x.teach(128, 50, 7), 1);
        Due.is("31: its number", x.row(0), 7);
        Due.is("31: the last three", x.teach(224, 50, 7), 3);
        Due.is("31: their numbers", x.row(0) + x.row(1) + x.row(2), 18);
        Due.is("31: and those ODDS", x.count(16), 4);
        Due.is("31: the first and the last", x.teach(129, 50, 0), 2);
        Due.is("31: their numbers", x.row(0) + x.row(1), 7);
        Due.is("31: and those ODDS", x.count(16), 3);
        Due.is("31: four", x.teach(15, 1, 0), -1);
        Due.is("31: all", x.teach(255, 1, 0), -1);
    }

    /** 0, 1, 49 and 50 GAMES against each, as playing tells. */
    private static void teachesByGames() {
        for (int n : new int[] {0, 1, 2, 49, 50}) {
            BoxesWithBeads x = withFoes(3);
            x.seed(12);
            long[] behind = new long[2];
            for (int order = 0; order < 2; order++) {
                BoxesWithBeads y = withFoes(3);
                y.seed(12);
                y.run(order == 0 ? 0 : 2, n);
                y.run(order == 0 ? 2 : 0, n);
                y.odds(1);
                behind[order] = 2 * y.row(0) + y.row(1);
            }
            Due.is("31: " + n + " GAMES", x.teach(5, n, 1), 2);
            if (behind[0] >= behind[1]) {
                Due.row("31: " + n + " GAMES", x, 0, 2, behind[0]);
            } else {
                Due.row("31: " + n + " GAMES", x, 2, 0, behind[1]);
            }
        }
    }

    /** "of equal ones the first by numbers". */
    private static void teachesOfEqual() {
        BoxesWithBeads x = Due.with("n1/1", "f1", "m1", "t1", "r0:1", "f2", "m2", "t2", "r0:2");
        for (int[] of : new int[][] {{0, 1, 2}, {0, 3, 7}, {5, 6, 7}, {1, 2, 4}}) {
            Due.is("31: alike", x.teach(1 << of[0] | 1 << of[1] | 1 << of[2], 3, 0), 3);
            Due.row("31: alike", x, of[0], of[1], of[2], 2 * ALL);
            Due.is("31: alike", x.teach(1 << of[0] | 1 << of[2], 3, 0), 2);
            Due.row("31: alike", x, of[0], of[2], 2 * ALL);
            Due.is("31: alike", x.teach(1 << of[2], 3, 0), 1);
            Due.row("31: alike", x, of[2], 2 * ALL);
        }
        // Equal at none at all, too.
        x = Due.with("n1/1m", "f1", "m1", "t1");
        Due.is("31: all LOST", x.teach(7, 50, 0), 3);
        Due.row("31: all LOST", x, 0, 1, 2, 0);
    }

    private static void teachesChangesTheRow() {
        for (int n : new int[] {0, 1, 50}) {
            BoxesWithBeads y = Whole.heap();
            Due.is("31: " + n, y.teach(7, n, 1), 3);
            long[] row = {y.row(0), y.row(1), y.row(2), y.row(3)};
            Whole.rowAlone("31: teach(7, " + n + ", 1)", Whole::heap, x -> x.teach(7, n, 1), 3, row);
        }
        BoxesWithBeads y = Whole.board();
        y.teach(2, 50, 0);
        Whole.rowAlone("31: teach(2, 50, 0)", Whole::board, x -> x.teach(2, 50, 0), 1, y.row(0), y.row(1));
    }

    /** "ODDS (WON twice and DRAWN)". */
    private static void teachesWonTwice() {
        String[] games = {"n1/1", "g1x1k2", "n1/1m"};
        long[] want = {2 * ALL, ALL, 0};
        for (int i = 0; i < games.length; i++) {
            BoxesWithBeads x = Due.with(games[i], "f1");
            Due.is("31: " + games[i], x.teach(1, 1, 0), 1);
            Due.row("31: " + games[i], x, 0, want[i]);
        }
        // Half WON and half DRAWN: of the two kinds of three places with k 2.
        BoxesWithBeads x = Due.with("g3x1k2", "r1:1");
        x.teach(1, 0, 0);
        Due.row("31: half and half", x, 0, 2 * (ALL / 2) + ALL / 2);
    }

    // 32: "The fewest FRESH beads (1 .. 20, the same for all s) with which THE CHEST, all its BOXES emptied into the BAG
    // at first, does not RESIGN in n GAMES (1 .. 50) PLAYED against a FOE, from R of now; nothing changes. -2: none;
    // NONE: others."

    private static void fewRefused() {
        for (int foe : new int[] {-1, -2, 3, 4, 8, Integer.MIN_VALUE, Integer.MAX_VALUE}) {
            Whole.stays("32: few(" + foe + ", 1) of 3", x -> x.few(foe, 1), -1);
        }
        for (int n : new int[] {0, -1, -2, 51, 52, Integer.MIN_VALUE, Integer.MAX_VALUE}) {
            Whole.stays("32: few(0, " + n + ")", x -> x.few(0, n), -1);
        }
        Due.is("32: no FOES", new BoxesWithBeads().few(0, 1), -1);
        BoxesWithBeads x = Due.with("n1/1", "m1", "m1", "m1", "m1", "m1", "m1", "m1", "m1");
        Due.is("32: the eighth", x.few(7, 1), 1);
        Due.is("32: no ninth", x.few(8, 1), -1);
    }

    /** LOST each time: so many beads are SPENT, and the n-th GAME needs one still. */
    private static void fewByBeads() {
        for (int spent : new int[] {0, 1, 2, 3, 19, 20, 99}) {
            BoxesWithBeads x = Due.with("n1/1m", "f1");
            Due.rule(x, "l-" + spent);
            x.pay(0);
            for (int n : new int[] {1, 2, 3, 7, 8, 10, 11, 20, 21, 50}) {
                int need = spent * (n - 1) + 1;
                Due.is("32: " + n + " GAMES by " + spent, x.few(0, n), need <= 20 ? need : -2);
            }
        }
    }

    private static void fewByGames() {
        BoxesWithBeads x = Due.with("n1/1", "f1");
        Due.is("32: one", x.few(0, 1), 1);
        Due.is("32: fifty", x.few(0, 50), 1);
        x.side(1);
        Due.is("32: it never moves", x.few(0, 50), 1);
        // "the same for all s": FRESH as it was told does not matter.
        x = Due.with("n20/1", "r0:1");
        x.sheet(3, 0, 0, 0);
        Due.is("32: FRESH of now is none", x.few(0, 50), 1);
        x.sheet(2, 21, 20, 0);
        Due.is("32: FRESH of now is 20", x.few(0, 50), 1);
        // Ten MOVES of one GAME, each from a BOX of its own.
        Due.rule(x, "l-1*");
        x.pay(0);
        // The k-th BOX loses k each time: the second GAME needs k + 1 of the tenth.
        Due.is("32: one GAME", x.few(0, 1), 1);
        Due.is("32: two GAMES", x.few(0, 2), 11);
        Due.is("32: three GAMES", x.few(0, 3), -2);
    }

    /** "all its BOXES emptied into the BAG": what is SPENT is not there. */
    private static void fewOfTheBag() {
        BoxesWithBeads x = Due.with("n1/1m", "f1");
        Due.rule(x, "l-99");
        Due.rule(x, "l-1");
        x.pay(0);
        x.open(2);
        for (int i = 0; i < 100; i++) {
            x.put(2, 0, 99);
        }
        x.run(0, 100);
        Due.is("32: four are left", x.count(2), 9900);
        Due.is("32: four are left", x.count(0), 4);
        x.pay(1);
        for (int n = 1; n <= 100 && n <= 50; n++) {
            Due.is("32: " + n + " GAMES of 100 beads", x.few(0, n), n <= 20 ? n : -2);
        }
        x.put(2, 0, 96);
        x.pay(0);
        x.run(0, 1);
        Due.is("32: one bead is left of all", x.count(0) + x.count(1), 1);
        x.pay(1);
        Due.is("32: one GAME", x.few(0, 1), 1);
        Due.is("32: two GAMES", x.few(0, 2), -2);
        x.run(0, 1);
        Due.is("32: no bead is left of all", x.count(0) + x.count(1), 0);
        Due.is("32: one GAME", x.few(0, 1), -2);
        x.pay(-1);
        Due.is("32: nothing would be paid", x.few(0, 1), -2);
    }

    private static void fewFromEmptied() {
        BoxesWithBeads x = Due.with("n1/1m", "f1");
        Due.rule(x, "l-1");
        x.pay(0);
        x.open(2);
        x.put(2, 0, 99);
        Due.is("32: opened BOXES are emptied", x.few(0, 5), 5);
        x.out(2, 0, 99);
        x.out(2, 0, 4);
        Due.is("32: opened ones without beads too", x.few(0, 5), 5);
    }

    private static void fewChangesNothing() {
        Supplier<BoxesWithBeads> heap = () -> {
            BoxesWithBeads x = Whole.heap();
            x.pay(2);
            return x;
        };
        for (int n : new int[] {1, 2, 49, 50}) {
            Whole.quiet("32: few(0, " + n + ")", heap, x -> x.few(0, n));
            Whole.quiet("32: few(1, " + n + ")", Whole::board, x -> x.few(1, n));
        }
        Whole.stays("32: none", () -> {
            BoxesWithBeads x = Whole.lived("n9/1", 1);
            Due.game(x, "n9/3");
            Due.rule(x, "w-20;d-20;l-20");
            x.pay(3);
            x.side(0);
            x.open(18);
            Due.text(x, "f2");
            return x;
        }, x -> x.few(0, 50), -2);
    }
}
