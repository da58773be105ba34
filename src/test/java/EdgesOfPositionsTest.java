import java.util.Arrays;

/** The edges that promises 13 to 17 name, each by itself, and what Terms 1 and 2 say of POSITIONS and VALUES. */
public final class EdgesOfPositionsTest {
    private static final int[] OUT = {-1, -2, 19683, 19684, 100000, Integer.MIN_VALUE, Integer.MAX_VALUE};

    public static void main(String[] args) {
        refusedAnywhere();
        smallBoards();
        boardsFull();
        rowsOfThree();
        rowsOfTwo();
        rowsAcrossEdges();
        smallHeaps();
        heapsBegin();
        turnsOfSquares();
        turnsOfOthers();
        valuesOfHeaps();
        valuesOfBoards();
        boxesAtEdges();
        showsAtEdges();
        nothingChanges();
        Due.close("EdgesOfPositionsTest");
    }

    // 13 and 14: "NONE: no POSITION that can come in THE GAME (whoever moves), it is over there." 15: "NONE: it can't
    // come."

    private static void refusedAnywhere() {
        for (int p : OUT) {
            Whole.stays("13: like(" + p + ")", x -> x.like(p), -1);
            Whole.stays("14: value(" + p + ")", x -> x.value(p), -1);
            Whole.stays("15: state(" + p + ")", x -> x.state(p), -1);
        }
        // Over: of a heap none left; of the board a row.
        int row = 1 + 3 + 9 + 54 + 162;
        Whole.stays("13: over", Whole::heap, x -> x.like(0) + x.like(1), -2);
        Whole.stays("14: over", Whole::heap, x -> x.value(0) + x.value(1), -2);
        Whole.stays("13: over", Whole::board, x -> x.like(row), -1);
        Whole.stays("14: over", Whole::board, x -> x.value(row), -1);
        // Can't come: SIDE 1 with the whole heap; more than it; SIDE 1's stone alone; two stones of SIDE 0 alone.
        for (int p : new int[] {19, 20, 21}) {
            Whole.stays("13: " + p, Whole::heap, x -> x.like(p), -1);
            Whole.stays("14: " + p, Whole::heap, x -> x.value(p), -1);
            Whole.stays("15: " + p, Whole::heap, x -> x.state(p), -1);
        }
        for (int p : new int[] {2, 4, 8, 13122, 19682}) {
            Whole.stays("13: " + p, Whole::board, x -> x.like(p), -1);
            Whole.stays("14: " + p, Whole::board, x -> x.value(p), -1);
            Whole.stays("15: " + p, Whole::board, x -> x.state(p), -1);
        }
    }

    /** States of all POSITIONS from -1 to one more than told; like() and value() answer just where it is not over. */
    private static void states(String game, int... want) {
        for (int side = 0; side <= 1; side++) {
            BoxesWithBeads x = Due.with(game);
            x.side(side);
            for (int p = -1; p <= want.length; p++) {
                int state = p >= 0 && p < want.length ? want[p] : -1;
                Due.is("15: " + game + ", state(" + p + ")", x.state(p), state);
                boolean goesOn = state == 0 || state == 1;
                Due.is("13: " + game + ", like(" + p + ") is one", x.like(p) >= 0, goesOn);
                Due.is("14: " + game + ", value(" + p + ") is one", x.value(p) >= 0, goesOn);
            }
        }
    }

    /** Terms 1, the least boards: "whoever has k stones .. has WON by that (with m: has LOST) .. All full: DRAWN". */
    private static void smallBoards() {
        states("g1x1k1", 0, 2, -1);
        states("g1x1k1m", 0, 3, -1);
        states("g1x1k2", 0, 4, -1);
        states("g1x1k2m", 0, 4, -1);
        states("g1x1k3", 0, 4, -1);
        // Two places: 0 1 3 of one stone each; 5 = 2 + 3 and 7 = 1 + 6 are full.
        states("g2x1k1", 0, 2, -1, 2, -1, -1, -1, -1, -1);
        states("g2x1k1m", 0, 3, -1, 3, -1, -1, -1, -1, -1);
        for (String game : new String[] {"g2x1k2", "g1x2k2", "g2x1k2m", "g1x2k3", "g2x1k3m"}) {
            states(game, 0, 1, -1, 1, -1, 4, -1, 4, -1);
        }
        // Three places in a row, two side by side.
        int[] three = new int[27];
        Arrays.fill(three, -1);
        three[0] = 0;
        for (int p : new int[] {1, 3, 9}) {
            three[p] = 1;
        }
        for (int p : new int[] {2 + 3, 1 + 6, 2 + 9, 1 + 18, 6 + 9, 3 + 18}) {
            three[p] = 0;
        }
        three[1 + 3 + 18] = 2;
        three[1 + 6 + 9] = 4;
        three[2 + 3 + 9] = 2;
        states("g3x1k2", three);
        states("g1x3k2", three);
        three[1 + 3 + 18] = 3;
        three[2 + 3 + 9] = 3;
        states("g3x1k2m", three);
        states("g1x3k2m", three);
        three[1 + 3 + 18] = 4;
        three[2 + 3 + 9] = 4;
        states("g3x1k3", three);
        states("g1x3k3m", three);
    }

    /** "All full without that: DRAWN": and full with it is WON, or LOST. */
    private static void boardsFull() {
        // 0 1 0 / 0 1 1 / 1 0 and SIDE 0's last stone: no row.
        int drawn = 1 + 6 + 9 + 27 + 162 + 486 + 1458 + 2187 + 6561;
        // 0 1 0 / 1 0 1 / 0 1 0: both lines aslant, if the middle is the last stone.
        int won = 1 + 6 + 9 + 54 + 81 + 486 + 729 + 4374 + 6561;
        BoxesWithBeads x = new BoxesWithBeads();
        Due.is("15: full, DRAWN", x.state(drawn), 4);
        Due.is("15: one less", x.state(drawn - 6561), 0);
        Due.is("15: full, and two rows by the last stone", x.state(won), 2);
        Due.is("15: the middle is left", x.state(won - 81), 0);
        Due.is("15: a corner is left, but WON ahead of it", x.state(won - 6561), -1);
        // 0 0 1 / 1 1 0 / 0 1 0: no row; with places 0 and 8 as last ones: 0 0 0 / 1 1 0 / 0 1 1 by place 2.
        int full = 1 + 3 + 9 + 54 + 162 + 243 + 729 + 4374 + 13122;
        Due.is("15: full, and a row by the last stone", x.state(full), 2);
        Due.is("15: one less", x.state(full - 9), 0);
        Due.is("14: the last one wins", x.value(full - 9), 2);
        Due.row("14: the last one wins", x, 2);
        Due.is("14: the last one draws", x.value(drawn - 6561), 1);
        Due.row("14: the last one draws", x, 8);
        x = Due.with("g3x3k3m");
        Due.is("15: full, and a row by the last stone", x.state(full), 3);
        Due.is("14: the last one loses", x.value(full - 9), 0);
        Due.row("14: the last one loses, yet it is the best", x, 2);
        Due.is("15: full, DRAWN with m too", x.state(drawn), 4);
    }

    /** Eight rows of three: "along, down, aslant either way". */
    private static void rowsOfThree() {
        int[][] rows = {{0, 1, 2}, {3, 4, 5}, {6, 7, 8}, {0, 3, 6}, {1, 4, 7}, {2, 5, 8}, {0, 4, 8}, {2, 4, 6}};
        int[] power = {1, 3, 9, 27, 81, 243, 729, 2187, 6561};
        int found = 0;
        for (int a = 0; a < 9; a++) {
            for (int b = a + 1; b < 9; b++) {
                for (int c = b + 1; c < 9; c++) {
                    boolean row = false;
                    for (int[] r : rows) {
                        row |= r[0] == a && r[1] == b && r[2] == c;
                    }
                    found += row ? 1 : 0;
                    threeStones(row, a, b, c, power);
                }
            }
        }
        Due.is("15: eight rows", found, 8);
    }

    /** Three stones of a SIDE, and so many of the other one that it could come, without a row of its own. */
    private static void threeStones(boolean row, int a, int b, int c, int[] power) {
        int three = power[a] + power[b] + power[c];
        BoxesWithBeads x = new BoxesWithBeads();
        BoxesWithBeads y = Due.with("g3x3k3m");
        for (int d = 0; d < 9; d++) {
            for (int e = d + 1; e < 9; e++) {
                if (d == a || d == b || d == c || e == a || e == b || e == c) {
                    continue;
                }
                int p = three + 2 * power[d] + 2 * power[e];
                Due.is("15: SIDE 0 at " + a + " " + b + " " + c, x.state(p), row ? 2 : 1);
                Due.is("15: with m", y.state(p), row ? 3 : 1);
            }
        }
    }

    /** k 2 on three by three: each two neighbours, aslant too; no others. */
    private static void rowsOfTwo() {
        int[] power = {1, 3, 9, 27, 81, 243, 729, 2187, 6561};
        for (int a = 0; a < 9; a++) {
            BoxesWithBeads x = Due.with("g3x3k2");
            for (int b = a + 1; b < 9; b++) {
                boolean near = Math.abs(a % 3 - b % 3) <= 1 && Math.abs(a / 3 - b / 3) <= 1;
                for (int c = 0; c < 9; c++) {
                    if (c != a && c != b) {
                        int p = power[a] + power[b] + 2 * power[c];
                        Due.is("15: k2, SIDE 0 at " + a + " " + b, x.state(p), near ? 2 : 1);
                    }
                }
            }
        }
    }

    /** Neighbours by number alone are none on the board. */
    private static void rowsAcrossEdges() {
        BoxesWithBeads x = Due.with("g2x3k2");
        // Places 0 1 / 2 3 / 4 5.
        Due.is("15: 1 and 2 are aslant", x.state(3 + 9 + 2), 2);
        Due.is("15: 0 and 3 are aslant", x.state(1 + 27 + 6), 2);
        Due.is("15: 1 and 4 are not side by side", x.state(3 + 81 + 2), 1);
        Due.is("15: 0 and 4 are not side by side", x.state(1 + 81 + 6), 1);
        Due.is("15: 3 and 4 are aslant", x.state(27 + 81 + 2), 2);
        x = Due.with("g3x2k2");
        // Places 0 1 2 / 3 4 5.
        Due.is("15: 2 and 3 are not", x.state(9 + 27 + 2), 1);
        Due.is("15: 0 and 5 are not", x.state(1 + 243 + 6), 1);
        Due.is("15: 0 and 2 are not", x.state(1 + 9 + 6), 1);
        Due.is("15: 2 and 4 are aslant", x.state(9 + 81 + 2), 2);
        Due.is("15: 0 and 4 are aslant", x.state(1 + 81 + 6), 2);
        x = Due.with("g3x2k3");
        Due.is("15: three from 1 on are no row", x.state(3 + 9 + 27 + 2 + 162), 1);
        Due.is("15: three down can't be", x.state(1 + 27 + 81 + 6 + 18), 1);
        Due.is("15: three along", x.state(27 + 81 + 243 + 2 + 6), 2);
    }

    /** "takes 1 .. TAKES (not more than there are)", "whoever takes the last has WON (with m: has LOST)". */
    private static void smallHeaps() {
        for (int takes = 1; takes <= 3; takes++) {
            states("n1/" + takes, -1, 2, 0, -1, -1);
            states("n1/" + takes + "m", -1, 3, 0, -1, -1);
        }
        states("n2/1", 3, -1, -1, 1, 0, -1, -1);
        states("n2/1m", 2, -1, -1, 1, 0, -1, -1);
        states("n2/2", 3, 2, -1, 1, 0, -1, -1);
        states("n2/3m", 2, 3, -1, 1, 0, -1, -1);
        states("n3/1", -1, 2, 0, -1, -1, 1, 0, -1, -1);
        states("n3/2", 3, 2, 0, 1, -1, 1, 0, -1, -1);
        states("n3/3", 3, 2, 0, 1, -1, 1, 0, -1, -1);
        states("n4/3", 3, 2, 0, 1, 0, 1, -1, 1, 0, -1, -1);
    }

    /** "of n twice what is left, and the SIDE that moves". */
    private static void heapsBegin() {
        for (int heap = 1; heap <= 20; heap++) {
            BoxesWithBeads x = Due.with("n" + heap + "/3");
            Due.is("15: the whole heap of " + heap, x.state(2 * heap), 0);
            Due.is("15: SIDE 1 does not begin", x.state(2 * heap + 1), -1);
            Due.is("15: no more of it", x.state(2 * heap + 2), -1);
            Due.is("13: the whole heap of " + heap, x.like(2 * heap), 2 * heap);
            for (int taken = 1; taken <= Math.min(3, heap); taken++) {
                Due.is("15: " + taken + " taken of " + heap, x.state(2 * (heap - taken) + 1), taken == heap ? 2 : 1);
            }
            for (int taken = 1; taken <= 4; taken++) {
                boolean may = taken <= Math.min(3, heap);
                Due.is("15: " + taken + " may be taken of " + heap, x.beads(2 * heap, taken - 1), may ? -2 : -1);
            }
            Due.is("15: one taken and SIDE 0 again", x.state(2 * (heap - 1)), -1);
        }
    }

    /** 13: the eight of the square: a stone of SIDE 0 at 1 and one of SIDE 1 at 0, led by each of them. */
    private static void turnsOfSquares() {
        int[] first = {1, 1, 7, 7, 3, 5, 3, 5};
        int[] second = {0, 2, 6, 8, 0, 2, 6, 8};
        int[] power = {1, 3, 9, 27, 81, 243, 729, 2187, 6561};
        BoxesWithBeads x = new BoxesWithBeads();
        BoxesWithBeads y = new BoxesWithBeads();
        y.likeness(false);
        for (int t = 0; t < 8; t++) {
            int p = power[first[t]] + 2 * power[second[t]];
            Due.is("13: turn " + t, x.like(p), 3 + 2);
            Due.is("13: turn " + t + ", LIKENESS off", y.like(p), p);
        }
        // The least number among them: itself, when it is.
        Due.is("13: the least is its own", x.like(5), 5);
        // Corners in a line: of SIDE 1 at 0 and of SIDE 0 at 2 is the least number of eight.
        for (int p : new int[] {1 + 18, 2 + 9, 1 + 1458, 2 + 729, 9 + 13122, 18 + 6561, 729 + 13122, 1458 + 6561}) {
            Due.is("13: two corners in a line", x.like(p), 2 + 9);
        }
        // Opposed corners: four, of which that of SIDE 1 at 2 and of SIDE 0 at 6 is the least.
        for (int p : new int[] {1 + 13122, 2 + 6561, 9 + 1458, 18 + 729}) {
            Due.is("13: opposed corners", x.like(p), 18 + 729);
        }
    }

    /** "else 4: none, both turned, either one". */
    private static void turnsOfOthers() {
        BoxesWithBeads x = Due.with("g2x3k3");
        // Places 0 1 / 2 3 / 4 5: SIDE 0 at 0, SIDE 1 at 2: 0 2, 1 3, 4 2, 5 3.
        int[][] alike = {{0, 2}, {1, 3}, {4, 2}, {5, 3}};
        int[] power = {1, 3, 9, 27, 81, 243};
        int least = Integer.MAX_VALUE;
        for (int[] of : alike) {
            least = Math.min(least, power[of[0]] + 2 * power[of[1]]);
        }
        for (int[] of : alike) {
            Due.is("13: two by three", x.like(power[of[0]] + 2 * power[of[1]]), least);
        }
        // A quarter turn would lead 0 and 1 there, but the board is not as wide as high.
        Due.is("13: side by side, not one above the other", x.like(1 + 6) == least, false);
        x = Due.with("g1x3k2");
        Due.is("13: one wide", x.like(9 + 6), x.like(1 + 6));
        Due.is("13: one wide", x.like(1 + 18) == x.like(1 + 6), false);
        x = Due.with("g1x1k2");
        Due.is("13: one place", x.like(0), 0);
        x = Due.with("g2x2k3");
        for (int p : new int[] {1, 3, 9, 27}) {
            Due.is("13: two by two", x.like(p), 1);
        }
    }

    /** Terms 2: "VALUE of a POSITION for who moves: 2 WON, 1 DRAWN, 0 LOST". 14: "its best MOVES, ascending". */
    private static void valuesOfHeaps() {
        for (int takes = 1; takes <= 3; takes++) {
            BoxesWithBeads x = Due.with("n20/" + takes);
            BoxesWithBeads y = Due.with("n20/" + takes + "m");
            for (int left = 1; left <= 17; left++) {
                int side = takes == 1 ? left % 2 : 0;
                int over = left % (takes + 1);
                heapValue(x, takes, left, side, over);
                heapValue(y, takes, left, side, (left - 1) % (takes + 1));
            }
        }
    }

    /** It is WON by one MOVE, that leaves none over, or LOST by all. */
    private static void heapValue(BoxesWithBeads x, int takes, int left, int side, int over) {
        Due.is("14: left " + left + " by " + takes, x.value(2 * left + side), over == 0 ? 0 : 2);
        if (over != 0) {
            Due.row("14: left " + left + " by " + takes, x, over - 1);
        } else {
            int many = Math.min(takes, left);
            long[] all = new long[many];
            for (int m = 0; m < many; m++) {
                all[m] = m;
            }
            Due.row("14: left " + left + " by " + takes, x, all);
        }
    }

    private static void valuesOfBoards() {
        BoxesWithBeads x = Due.with("g1x1k1");
        Due.is("14: the one place", x.value(0), 2);
        Due.row("14: the one place", x, 0);
        x = Due.with("g1x1k1m");
        Due.is("14: the one place", x.value(0), 0);
        Due.row("14: the one place", x, 0);
        x = Due.with("g3x3k3");
        Due.is("14: all nine", x.value(0), 1);
        Due.is("14: all nine", x.count(16), 9);
        // For who moves: SIDE 1 can take the third of a row.
        int p = 1 + 9 + 6561 + 2 * (27 + 81);
        Due.is("14: SIDE 1 wins", x.value(p), 2);
        Due.row("14: SIDE 1 wins", x, 5);
        // SIDE 0 threatens two rows.
        p = 1 + 9 + 729 + 2 * (3 + 6561);
        Due.is("14: SIDE 1 loses", x.value(p), 0);
        Due.row("14: all are the best", x, 3, 4, 5, 7);
        Due.is("14: ascending, and with none", x.value(-1), -1);
        Due.row("14: the ROW stays", x, 3, 4, 5, 7);
    }

    // 16: "How many BOXES THE CHEST's SIDE can come to, whatever both do."

    private static void boxesAtEdges() {
        String[] games = {"g1x1k1", "g1x1k3m", "g2x1k1", "g2x1k2", "n1/1", "n1/3m", "n2/1", "n2/2", "n20/3", "n20/1"};
        int[] first = {1, 1, 1, 1, 1, 1, 1, 1, 19, 10};
        int[] second = {0, 0, 0, 1, 0, 0, 1, 1, 19, 10};
        for (int i = 0; i < games.length; i++) {
            BoxesWithBeads x = Due.with(games[i]);
            Due.is("16: " + games[i] + ", SIDE 0", x.boxes(), first[i]);
            x.side(1);
            Due.is("16: " + games[i] + ", SIDE 1", x.boxes(), second[i]);
        }
        BoxesWithBeads x = Due.with("g2x1k2");
        x.side(1);
        x.likeness(false);
        Due.is("16: LIKENESS off", x.boxes(), 2);
        // All of 3 by 3 that can come, by stones 0, 2, 4, 6, 8, less those that are over.
        x = Due.with("g3x3k3");
        x.likeness(false);
        Due.is("16: SIDE 0, LIKENESS off", x.boxes(), 1 + 72 + 756 + (1680 - 148) + (630 - 568));
    }

    // 17: "How many it can come to against a FOE .. NONE: none such."

    private static void showsAtEdges() {
        for (int foe : new int[] {-1, 3, 4, 8, -100, Integer.MIN_VALUE, Integer.MAX_VALUE}) {
            Whole.stays("17: shows(" + foe + ") of 3", x -> x.shows(foe), -1);
        }
        BoxesWithBeads x = Due.with("g1x1k1", "f1");
        Due.is("17: the one BOX", x.shows(0), 1);
        x.side(1);
        Due.is("17: none", x.shows(0), 0);
        x = Due.with("n2/2", "r1:9", "r0:1", "r1:9;r0:1", "r1:9;r1:1");
        x.side(1);
        Due.is("17: it takes both", x.shows(0), 0);
        Due.is("17: it takes one", x.shows(1), 1);
        Due.is("17: a SHARE of 1 of 10", x.shows(2), 1);
        Due.is("17: two that take both", x.shows(3), 0);
        // "THE CHEST any that may be done": also those that have no beads.
        x = Due.with("g3x1k3", "r0:1", "r2:1");
        // Kinds are 0 and 1, yet 2 may be done; behind 0, 1 and 2 the FOE is at 1, 0 and 0: none of these are like.
        Due.is("17: any that may be done", x.shows(0), 1 + 3);
        x.open(0);
        x.out(0, 0, 4);
        x.out(0, 1, 4);
        Due.is("17: beads don't matter", x.shows(0), 4);
        x.sheet(3, 0, 0, 0);
        x.side(0);
        Due.is("17: FRESH does not matter", x.shows(0), 4);
        // Behind 0, 1 and 2 the FOE is at 2, 2 and 0: the first and the last are like.
        Due.is("17: the other end", x.shows(1), 1 + 2);
        x = Due.with("n1/1", "f1", "f1", "f1", "f1", "f1", "f1", "f1", "f1");
        Due.is("17: the eighth", x.shows(7), 1);
        Due.is("17: no ninth", x.shows(8), -1);
    }

    private static void nothingChanges() {
        Whole.stays("13: like", Whole::heap, x -> x.like(14), 14);
        Whole.stays("13: like", Whole::board, x -> x.like(6561), 1);
        Whole.stays("15: state", Whole::heap, x -> x.state(14), 0);
        Whole.stays("15: state", Whole::board, x -> x.state(1), 1);
        Whole.stays("16: boxes", Whole::board, x -> x.boxes(), 289);
        Whole.stays("17: shows", Whole::board, x -> x.shows(0), 289);
        Whole.rowAlone("14: value", Whole::heap, x -> x.value(10), 2, 0);
        Whole.rowAlone("14: value", Whole::board, x -> x.value(1), 1, 4);
    }
}
