import java.util.function.Supplier;

/** The edges that promises 26 and 27 name, each by itself, and what Terms 3 says of ODDS. */
public final class EdgesOfOddsTest {
    private static final long ALL = 1000000000L;
    private static final int[] NO_FOES = {-1, -2, 3, 4, 8, Integer.MIN_VALUE, Integer.MAX_VALUE};

    public static void main(String[] args) {
        oddsRefused();
        oddsOfOneEnd();
        oddsOfNoBeads();
        oddsByBeads();
        oddsCut();
        oddsOfFoes();
        oddsOfUnopened();
        oddsOfLike();
        oddsChangeNothing();
        waysRefused();
        waysOfNoGame();
        waysByGames();
        waysAside();
        waysOfFoes();
        waysCut();
        waysOfThe();
        waysOfManyBoxes();
        waysOfTheBag();
        waysAtTheLimit();
        waysChangeNothing();
        Due.close("EdgesOfOddsTest");
    }

    private static BoxesWithBeads even(String game, int each, String... foes) {
        BoxesWithBeads x = Due.with(game, foes);
        x.sheet(2, 21, each, 0);
        return x;
    }

    private static void odds(String what, BoxesWithBeads x, int foe, long won, long drawn, long lost) {
        Due.is("26: " + what, x.odds(foe), 0);
        Due.row("26: " + what, x, won, drawn, lost);
    }

    // 26: "ODDS against a FOE: the ROW: of WON, DRAWN, LOST. 0; NONE: none such."

    private static void oddsRefused() {
        for (int foe : NO_FOES) {
            Whole.stays("26: odds(" + foe + ") of 3", x -> x.odds(foe), -1);
        }
        Due.is("26: no FOES", new BoxesWithBeads().odds(0), -1);
        BoxesWithBeads x = Due.with("n1/1", "m1", "m1", "m1", "m1", "m1", "m1", "m1", "m1");
        Due.is("26: the eighth", x.odds(7), 0);
        Due.is("26: no ninth", x.odds(8), -1);
    }

    private static void oddsOfOneEnd() {
        String[] games = {"n1/1", "n1/1m", "n2/1", "g1x1k1", "g1x1k1m", "g1x1k2", "g3x3k1", "g3x3k1m", "n20/1", "n20/1m"};
        int[] first = {2, 0, 0, 2, 0, 1, 2, 0, 0, 2};
        for (int i = 0; i < games.length; i++) {
            for (String foe : new String[] {"f1", "m1", "t9", "r0:1"}) {
                BoxesWithBeads x = even(games[i], 1, foe);
                for (int side = 0; side <= 1; side++) {
                    x.side(side);
                    int end = side == 0 ? first[i] : 2 - first[i];
                    odds(games[i] + ", SIDE " + side, x, 0, end == 2 ? ALL : 0, end == 1 ? ALL : 0, end == 0 ? ALL : 0);
                }
            }
        }
    }

    /** "(none: LOST all)". */
    private static void oddsOfNoBeads() {
        BoxesWithBeads x = even("n1/1", 0, "f1");
        odds("FRESH of none", x, 0, 0, 0, ALL);
        x.open(2);
        odds("opened with none", x, 0, 0, 0, ALL);
        x.put(2, 0, 1);
        odds("one bead", x, 0, ALL, 0, 0);
        x.out(2, 0, 1);
        odds("none again", x, 0, 0, 0, ALL);
        // Behind: one of two MOVES leads to a BOX without beads.
        x = even("n3/2", 1, "r0:1");
        x.fresh(2, 0);
        odds("none at the last BOX", x, 0, 0, 0, ALL);
        x.fresh(2, 1);
        odds("one at the last BOX", x, 0, ALL / 2, 0, ALL / 2);
        x = even("g1x1k3", 0, "f1");
        odds("no beads, yet it would be DRAWN", x, 0, 0, 0, ALL);
    }

    /** "of a BOX the sum over MOVES of beads times the ODDS behind them, by all beads". */
    private static void oddsByBeads() {
        // Two of 2: WON; one of 2: LOST.
        for (int one : new int[] {0, 1, 2, 3, 7, 99}) {
            for (int two : new int[] {0, 1, 2, 6, 99}) {
                BoxesWithBeads x = even("n2/2", 0, "f1");
                x.open(4);
                if (one > 0) {
                    x.put(4, 0, one);
                }
                if (two > 0) {
                    x.put(4, 1, two);
                }
                int all = one + two;
                odds(one + " and " + two, x, 0, all == 0 ? 0 : ALL * two / all, 0, all == 0 ? ALL : ALL * one / all);
            }
        }
        // All 10000 beads times all ODDS.
        BoxesWithBeads x = even("n1/1", 1, "f1");
        Due.rule(x, "w+99");
        x.pay(0);
        x.run(0, 200);
        Due.is("26: 10000 beads", x.beads(2, 0), 10000);
        odds("10000 beads", x, 0, ALL, 0, 0);
    }

    /** "in parts of 1000000000, cut at each BOX and FOE". */
    private static void oddsCut() {
        // Of a heap of 7 by 3 as SIDE 0, one bead each, against a fool; by hand from the last one on.
        long[][] own = new long[8][3];
        long[][] foes = new long[8][3];
        own[0] = new long[] {0, 0, ALL};
        foes[0] = new long[] {ALL, 0, 0};
        for (int left = 1; left <= 7; left++) {
            int many = Math.min(3, left);
            for (int e = 0; e < 3; e++) {
                long ofOwn = 0;
                long ofFoe = 0;
                for (int m = 1; m <= many; m++) {
                    ofOwn += foes[left - m][e];
                    ofFoe += own[left - m][e];
                }
                own[left][e] = ofOwn / many;
                foes[left][e] = ofFoe / many;
            }
            BoxesWithBeads x = even("n" + left + "/3", 5, "f3");
            odds("left " + left + ", SIDE 0", x, 0, own[left][0], own[left][1], own[left][2]);
            x.side(1);
            odds("left " + left + ", SIDE 1", x, 0, foes[left][0], foes[left][1], foes[left][2]);
        }
        Due.is("26: parts were cut off", own[7][0] + own[7][1] + own[7][2] < ALL, true);
    }

    /** "of one f ..; of m, t, r those of its MOVE; of several: the sum of SHARE times these, by all SHARES". */
    private static void oddsOfFoes() {
        // Two left to the FOE: a fool is LOST by half, who takes both LOST, who takes one WON.
        BoxesWithBeads x = even("n3/3", 1, "f1;m2", "f2;m1", "r0:1;r1:9", "r0:9;r1:1", "f1;f1;f1", "t4;f3;r1:2", "f9");
        x.open(6);
        x.out(6, 1, 1);
        x.out(6, 2, 1);
        odds("f1;m2", x, 0, ALL / 2 / 3, 0, (ALL / 2 + 2 * ALL) / 3);
        odds("f2;m1", x, 1, 2 * (ALL / 2) / 3, 0, (2 * (ALL / 2) + ALL) / 3);
        odds("r0:1;r1:9", x, 2, ALL / 10, 0, 9 * ALL / 10);
        odds("r0:9;r1:1", x, 3, 9 * ALL / 10, 0, ALL / 10);
        odds("f1;f1;f1", x, 4, ALL / 2, 0, ALL / 2);
        odds("t4;f3;r1:2", x, 5, (4 * ALL + 3 * (ALL / 2)) / 9, 0, (3 * (ALL / 2) + 2 * ALL) / 9);
        odds("f9", x, 6, ALL / 2, 0, ALL / 2);
        // "these" are in parts already: a fool's ODDS among several are cut ahead of its SHARE.
        x = even("n3/3", 0, "f9;r2:1");
        x.side(1);
        x.fresh(2, 1);
        x.open(5);
        x.put(5, 0, 3);
        x.put(5, 1, 1);
        long won = (ALL / 4 + ALL) / 3;
        long lost = (ALL * 3 / 4 + ALL) / 3;
        odds("f9;r2:1", x, 0, 9 * won / 10, 0, (9 * lost + ALL) / 10);
        Due.is("26: one less than in one cut", x.row(0), 9 * (ALL / 4 + ALL) / 30 - 1);
    }

    /** "unopened BOXES as if opened, the BAG not asked; nothing is opened". */
    private static void oddsOfUnopened() {
        BoxesWithBeads x = even("n3/2", 2, "r0:1");
        odds("as if opened", x, 0, ALL / 2, 0, ALL / 2);
        x.open(6);
        x.put(6, 0, 4);
        odds("the opened one as it is", x, 0, ALL * 6 / 8, 0, ALL * 2 / 8);
        x.fresh(0, 20);
        odds("FRESH of it does not matter then", x, 0, ALL * 6 / 8, 0, ALL * 2 / 8);
        // An empty BAG.
        for (int left = x.count(1); left > 0; left -= 99) {
            x.put(6, 1, Math.min(99, left));
        }
        x.out(6, 1, 1);
        x.put(6, 0, 1);
        Due.is("26: the BAG is empty", x.count(1), 0);
        odds("the BAG is not asked", x, 0, ALL * 7 / 10000, 0, ALL * 9993 / 10000);
        Due.is("26: nothing is opened", x.beads(2, 0), -2);
        Due.is("26: yet it would be opened with none", x.open(2), 0);
        odds("opened with none", x, 0, 0, 0, ALL);
    }

    /** Like MOVES are one kind: each BOX by its own beads, not by all its places. */
    private static void oddsOfLike() {
        // Along three places with k 2 against one that goes to the left end: the middle is WON, the end is not.
        BoxesWithBeads x = even("g3x1k2", 1, "r1:1");
        // Kinds 0 and 1; behind 0 the FOE is in the middle: DRAWN.
        odds("two kinds", x, 0, ALL / 2, ALL / 2, 0);
        x.likeness(false);
        odds("three MOVES", x, 0, ALL / 3, ALL * 2 / 3, 0);
    }

    private static void oddsChangeNothing() {
        BoxesWithBeads y = Whole.heap();
        y.odds(1);
        Whole.rowAlone("26: odds", Whole::heap, x -> x.odds(1), 0, y.row(0), y.row(1), y.row(2));
        y = Whole.board();
        y.odds(0);
        Whole.rowAlone("26: odds", Whole::board, x -> x.odds(0), 0, y.row(0), y.row(1), y.row(2));
    }

    // 27: "All WAYS that n GAMES PLAYED (0 .. 3) against a FOE can go .. 0; -3: more than 3000 WAYS (the ROW stays);
    // NONE: others."

    private static void waysRefused() {
        for (int foe : NO_FOES) {
            Whole.stays("27: ways(" + foe + ", 1) of 3", x -> x.ways(foe, 1), -1);
        }
        for (int n : new int[] {-1, -2, 4, 5, Integer.MIN_VALUE, Integer.MAX_VALUE}) {
            Whole.stays("27: ways(0, " + n + ")", x -> x.ways(0, n), -1);
            Whole.stays("27: ways(3, " + n + ")", x -> x.ways(3, n), -1);
        }
        Due.is("27: no FOES", new BoxesWithBeads().ways(0, 0), -1);
    }

    private static void ways(String what, BoxesWithBeads x, int foe, int n, long... row) {
        Due.is("27: " + what, x.ways(foe, n), 0);
        Due.row("27: " + what, x, row);
    }

    private static void waysOfNoGame() {
        BoxesWithBeads x = even("n9/3", 4, "f1");
        ways("no game, no beads", x, 0, 0, 1, ALL, 0, 0, 0);
        x.open(18);
        ways("no game, twelve beads", x, 0, 0, 1, ALL, 12 * ALL, 12, 12);
        x = even("n1/1", 1, "f1");
        Due.rule(x, "w+99");
        x.pay(0);
        x.run(0, 200);
        ways("no game, all beads", x, 0, 0, 1, ALL, 10000 * ALL, 10000, 10000);
        ways("three games, all beads", x, 0, 3, 1, ALL, 10000 * ALL, 10000, 10000);
    }

    /** 0, 1, 2 and 3 GAMES: two WAYS each. */
    private static void waysByGames() {
        BoxesWithBeads x = even("n2/2", 1, "f1");
        x.open(4);
        ways("one game", x, 0, 1, 2, ALL, 2 * ALL, 2, 2);
        ways("two games", x, 0, 2, 4, ALL, 2 * ALL, 2, 2);
        ways("three games", x, 0, 3, 8, ALL, 2 * ALL, 2, 2);
        // WON by both of 2: one more; LOST by one of 2: one less.
        Due.rule(x, "w+1;l-1");
        x.pay(0);
        ways("one game, paid", x, 0, 1, 2, ALL, 2 * ALL, 3, 1);
        // WON: 1 and 2: WON 2/3: 4, LOST: 2. LOST: 0 and 1: WON alone: 2.
        long third = ALL / 2 / 3;
        long thirds = ALL / 2 * 2 / 3;
        ways("two games, paid", x, 0, 2, 3, third + thirds + ALL / 2, 4 * thirds + 2 * third + 2 * (ALL / 2), 4, 2);
        // 1 and 3: 3/4: 5, 1/4: 3; 0 and 2: 3; 0 and 2: 3.
        long four = thirds * 3 / 4;
        long one = thirds / 4;
        ways("three games, paid", x, 0, 3, 4, four + one + third + ALL / 2, 5 * four + 3 * one + 3 * third + 3 * (ALL / 2),
                5, 3);
    }

    /** "those without a bead aside": of a BOX, also of none at all: RESIGNED is one WAY. */
    private static void waysAside() {
        BoxesWithBeads x = even("n3/3", 1, "f1");
        ways("three MOVES: the last two end it", x, 0, 1, 4, 2 * (ALL / 3) + 2 * (ALL / 3 / 2), 3 * 2 * (ALL / 3)
                + (3 + 1) * (ALL / 3 / 2) + 3 * (ALL / 3 / 2), 4, 3);
        x.open(6);
        x.out(6, 0, 1);
        ways("two MOVES", x, 0, 1, 2, ALL, 2 * ALL, 2, 2);
        x.out(6, 2, 1);
        ways("one MOVE", x, 0, 1, 1, ALL, ALL, 1, 1);
        x.out(6, 1, 1);
        ways("none: RESIGNED", x, 0, 1, 1, ALL, 0, 0, 0);
        ways("none, three times", x, 0, 3, 1, ALL, 0, 0, 0);
        x.put(6, 1, 99);
        ways("many beads of one MOVE are one WAY", x, 0, 3, 1, ALL, 99 * ALL, 99, 99);
    }

    /** "at each FOE times SHARE by all SHARES, if there are two or more, then by how many MOVES for an f". */
    private static void waysOfFoes() {
        // The FOE's MOVE ends it: nine places each, k 1.
        BoxesWithBeads x = even("g3x3k1", 1, "f9", "m9", "r8:1", "f1;f1", "m1;r5:2", "m9;f1", "f1;m1;f1");
        x.side(1);
        long nine = ALL / 9;
        ways("a fool", x, 0, 1, 9, 9 * nine, 0, 0, 0);
        ways("a master", x, 1, 1, 1, ALL, 0, 0, 0);
        ways("one of a kind", x, 2, 3, 1, ALL, 0, 0, 0);
        ways("two fools", x, 3, 1, 18, 18 * (ALL / 2 / 9), 0, 0, 0);
        ways("two others", x, 4, 1, 2, ALL / 3 + ALL * 2 / 3, 0, 0, 0);
        ways("by SHARES", x, 5, 1, 10, ALL * 9 / 10 + 9 * (ALL / 10 / 9), 0, 0, 0);
        ways("three", x, 6, 1, 19, ALL / 3 + 18 * (ALL / 3 / 9), 0, 0, 0);
        ways("a fool, twice", x, 0, 2, 81, 81 * (nine / 9), 0, 0, 0);
        ways("a fool, three times", x, 0, 3, 729, 729 * (nine / 9 / 9), 0, 0, 0);
        // One MOVE alone: the SHARES are drawn all the same, the fool's one MOVE divides by one.
        x = even("n1/1", 1, "f1", "f1;f1", "m1;t2");
        x.side(1);
        ways("one MOVE, a fool", x, 0, 3, 1, ALL, 0, 0, 0);
        ways("one MOVE, two fools", x, 1, 3, 8, ALL, 0, 0, 0);
        ways("one MOVE, two others", x, 2, 1, 2, ALL / 3 + ALL * 2 / 3, 0, 0, 0);
    }

    /** "cut each time": SHARES first, then MOVES, then beads. */
    private static void waysCut() {
        BoxesWithBeads x = even("n3/3", 1, "f3;m4");
        x.side(1);
        // The fool: 3 of 7, a third; behind one MOVE two are left: halves, then again the FOE's last one in two parts.
        long fool = ALL * 3 / 7 / 3;
        long half = fool / 2;
        long again = half * 3 / 7 / 1;
        long master = half * 4 / 7;
        long sum = ALL * 4 / 7 + fool + fool + half + again + master;
        // Beads: none if all were taken; one BOX of one MOVE; one of two MOVES.
        ways("cut each time", x, 0, 1, 6, sum, fool + 2 * (half + again + master), 2, 0);
        // A CHANCE that is cut to none is a WAY still.
        BoxesWithBeads y = even("n2/2m", 0, "r0:1");
        y.open(4);
        for (int i = 0; i < 100; i++) {
            y.put(4, 1, 99);
        }
        y.put(4, 0, 1);
        long rare = ALL / 9901;
        long often = ALL * 9900 / 9901;
        long twice = rare / 9901;
        long thrice = twice / 9901;
        Due.is("27: it is cut to none", thrice, 0);
        ways("a rare one", y, 0, 1, 2, rare + often, 9901 * (rare + often), 9901, 9901);
        long sumOfThree = 0;
        for (int bits = 0; bits < 8; bits++) {
            long chance = ALL;
            for (int i = 0; i < 3; i++) {
                chance = chance * ((bits >> i & 1) == 0 ? 1 : 9900) / 9901;
            }
            sumOfThree += chance;
        }
        ways("a rare one, three times", y, 0, 3, 8, sumOfThree, 9901 * sumOfThree, 9901, 9901);
    }

    /** "the greatest and the least number of beads in BOXES": BOXES of one WAY are not there in the next. */
    private static void waysOfThe() {
        BoxesWithBeads x = even("n4/3", 3, "r0:1;r1:1;r2:1");
        x.side(1);
        // Left 3, 2 or 1: nine, six or three beads; behind one of 3 (2 left to the FOE) one is left if it takes one;
        // behind one of 2 none.
        Due.is("27: WAYS", x.ways(0, 1), 0);
        Due.is("27: the greatest", x.row(3), 12);
        Due.is("27: the least", x.row(4), 3);
        Due.is("27: two GAMES", x.ways(0, 2), 0);
        Due.is("27: the greatest", x.row(3), 18);
        Due.is("27: the least", x.row(4), 3);
        Due.is("27: nothing is opened", x.count(3), 0);
    }

    /** All WAYS of one GAME by ones, twos and threes, told by going through them here: SIDE 0, v beads of each MOVE. */
    private static void walk(long[] sums, boolean own, int left, int v, long chance, int beads) {
        if (left == 0) {
            sums[0]++;
            sums[1] += chance;
            sums[2] += chance * beads;
            sums[3] = Math.max(sums[3], beads);
            sums[4] = Math.min(sums[4], beads);
            return;
        }
        int many = Math.min(3, left);
        for (int part = 0; part < (own ? many : 3); part++) {
            // A wish that can't be done is the first of all.
            int taken = part < many ? part + 1 : 1;
            walk(sums, !own, left - taken, v, chance / (own ? many : 3), own ? beads + many * v : beads);
        }
    }

    /** Many WAYS that come to many BOXES: none leaves anything to the next. */
    private static void waysOfManyBoxes() {
        for (int heap = 1; heap <= 9; heap++) {
            for (int v = 1; v <= 3; v++) {
                BoxesWithBeads x = even("n" + heap + "/3", v, "r0:1;r1:1;r2:1");
                long[] sums = {0, 0, 0, 0, 10000};
                walk(sums, true, heap, v, ALL, 0);
                Due.is("27: heap of " + heap + ": few enough", sums[0] <= 3000, true);
                ways("heap of " + heap, x, 0, 1, sums);
                ways("heap of " + heap + ", once more", x, 0, 1, sums);
                Due.is("27: nothing is opened", x.count(3), 0);
            }
        }
    }

    /** The BAG is asked, other than by odds(). */
    private static void waysOfTheBag() {
        BoxesWithBeads x = even("n3/2", 2, "r0:1");
        x.open(6);
        for (int left = x.count(1) - 1; left > 0; left -= 99) {
            x.put(6, 0, Math.min(99, left));
        }
        Due.is("27: one in the BAG", x.count(1), 1);
        x.out(6, 1, 2);
        x.put(6, 0, 2);
        ways("the last BOX gets one", x, 0, 1, 1, ALL, 10000 * ALL, 10000, 10000);
        x.put(6, 0, 1);
        ways("the last BOX gets none: RESIGNED", x, 0, 1, 1, ALL, 10000 * ALL, 10000, 10000);
        Due.rule(x, "l-99");
        x.pay(0);
        ways("RESIGNED: LOST", x, 0, 1, 1, ALL, 9901 * ALL, 9901, 9901);
        ways("RESIGNED twice", x, 0, 2, 1, ALL, 9802 * ALL, 9802, 9802);
        Due.is("27: as it was", x.count(0), 10000);
    }

    /** 3000 and fewer, and more: c WAYS of one GAME are c times c of two. */
    private static void waysAtTheLimit() {
        String[] foes = {
            // 54, 55, 14, 15, 117 WAYS of one GAME.
            "f1;f1;f1;f1;f1;f1", "f1;f1;f1;f1;f1;f1;m1", "f1;m1;m1;m1;m1;m1", "f1;m1;m1;m1;m1;m1;m1",
            "f1;f1;f1;f1;f1;f1;f1;f1;f1;f1;f1;f1;f1",
        };
        int[] each = {54, 55, 14, 15, 117};
        BoxesWithBeads x = even("g3x3k1", 1, foes);
        x.side(1);
        for (int i = 0; i < foes.length; i++) {
            long ways = 1;
            for (int n = 0; n <= 3; n++) {
                x.knows();
                Due.is("27: " + ways + " WAYS", x.ways(i, n), ways <= 3000 ? 0 : -3);
                if (ways <= 3000) {
                    Due.is("27: so many", x.row(0), ways);
                } else {
                    Due.row("27: the ROW stays", x, 0, 0);
                }
                ways *= each[i];
            }
        }
    }

    private static void waysChangeNothing() {
        Whole.stays("27: more than 3000", Whole::board, x -> x.ways(0, 1), -3);
        Whole.stays("27: more than 3000", Whole::board, x -> x.ways(0, 3), -3);
        Supplier<BoxesWithBeads> made = () -> {
            BoxesWithBeads x = Whole.heap();
            x.keep(2);
            return x;
        };
        Whole.stays("27: more than 3000", made, x -> x.ways(0, 3), -3);
        BoxesWithBeads y = made.get();
        Due.is("27: of one GAME", y.ways(2, 1), 0);
        Whole.rowAlone("27: ways", made, x -> x.ways(2, 1), 0, y.row(0), y.row(1), y.row(2), y.row(3), y.row(4));
        Whole.rowAlone("27: no game", Whole::board, x -> x.ways(0, 0), 0, 1, ALL, ALL * Whole.board().count(0),
                Whole.board().count(0), Whole.board().count(0));
    }
}
