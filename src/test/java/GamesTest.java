/**
 * Promises 23 to 27: play, run, come, odds, ways. From R = 1 the DRAWS are of 16838, 38526, 10113, 50283, 63819,
 * 38395 by what there are.
 */
public final class GamesTest {
    private static final long ALL = 1000000000L;

    public static void main(String[] args) {
        plays();
        playsOfTheOther();
        drawsOfFoes();
        movesLedBack();
        movesLedByQuarters();
        pays();
        paysByOrder();
        refills();
        refillsTheResigned();
        bagOfNone();
        runs();
        comes();
        odds();
        oddsOfFoes();
        oddsOfLike();
        ways();
        waysOfFoes();
        waysOfPay();
        waysTooMany();
        refused();
        Due.close("GamesTest");
    }

    private static BoxesWithBeads even(String game, int each, String... foes) {
        BoxesWithBeads x = Due.with(game, foes);
        x.sheet(2, 21, each, 0);
        return x;
    }

    private static void plays() {
        BoxesWithBeads x = even("n4/2", 1, "r0:1");
        // 16838 % 2 = 0: one of 4; one; 38526 % 2 = 0: one of 2; the last one is the FOE's.
        Due.is("23: LOST", x.play(0), 0);
        Due.row("23: LOST", x, 0, 0, 0, 0);
        Due.is("23: opened as they are drawn from", x.count(3), 2);
        Due.is("23: two beads each", x.count(0), 4);
        // 10113 % 2 = 1: two of 4; one; the last one by a DRAW of one thing.
        Due.is("23: WON", x.play(0), 2);
        Due.row("23: WON", x, 1, 0, 0);
        Due.is("23: three opened", x.count(3), 3);
        Due.is("23: games", x.count(6), 2);
        // 63819 % 2 = 1: two of 4; one; one.
        Due.is("23: WON", x.play(0), 2);
        Due.row("23: WON", x, 1, 0, 0);

        x = even("g1x1k3", 1, "r0:1");
        Due.is("23: DRAWN", x.play(0), 1);
        Due.row("23: DRAWN", x, 0);
        x.out(0, 0, 1);
        Due.is("23: RESIGNED", x.play(0), 3);
        Due.row("23: RESIGNED", x);
        x = even("n2/1m", 1, "r0:1");
        Due.is("23: the FOE takes the last", x.play(0), 2);
        x = even("g1x1k1m", 1, "r0:1");
        Due.is("23: a row of one's own has LOST", x.play(0), 0);
        x = even("n4/2", 0, "r0:1");
        Due.is("23: no FRESH beads", x.play(0), 3);
        Due.is("23: opened without", x.count(4), 1);
        Due.is("23: no DRAW", x.seed(1), 1);
    }

    private static void playsOfTheOther() {
        BoxesWithBeads x = even("n4/2", 1, "r1:1");
        x.side(1);
        // The FOE takes two; 16838 % 2 = 0: one of 2; it takes the last.
        Due.is("23: LOST", x.play(0), 0);
        Due.row("23: LOST", x, 1, 0, 0);
        // 38526 % 2 = 0: again; 10113 % 2 = 1: both.
        Due.is("23: LOST", x.play(0), 0);
        Due.is("23: WON", x.play(0), 2);
        Due.row("23: WON", x, 1, 1);
        x = even("g3x1k3", 2, "r1:1");
        x.side(1);
        // The middle; like ends: one kind; the last one is the FOE's.
        Due.is("23: DRAWN", x.play(0), 1);
        Due.row("23: DRAWN", x, 1, 0, 2);
    }

    private static void drawsOfFoes() {
        BoxesWithBeads x = even("n3/2", 1, "f1");
        // One kind at 1 left; 16838 % 2 = 0 of the BOX; 38526 % 2 = 0 of the fool; 10113 % 1 of the BOX.
        Due.is("23: WON", x.play(0), 2);
        Due.row("23: WON", x, 0, 0, 0);
        // 50283 % 2 = 1: two; 63819 % 1: the fool takes the last by a DRAW too.
        Due.is("23: LOST", x.play(0), 0);
        Due.row("23: LOST", x, 1, 0);
        x.seed(1);
        for (int i = 0; i < 5; i++) {
            x.seed(x.seed(0) * 1103515245 + 12345);
        }
        int fifth = x.seed(1);
        x.play(0);
        x.play(0);
        // Of the same BOXES: 0 0 0 and 1 0 again: five DRAWS in all.
        Due.is("23: R", x.seed(1), fifth);

        x = even("n4/1", 1, "m1;m1", "m1", "r0:2;f1;t5");
        x.play(0);
        int byTwo = x.seed(1);
        x.play(1);
        int byOne = x.seed(1);
        int third = 1;
        int fourth = 1;
        for (int i = 0; i < 4; i++) {
            third = fourth;
            fourth = fourth * 1103515245 + 12345;
        }
        Due.is("23: a DRAW of SHARES though one MOVE alone may be done", byTwo, fourth);
        Due.is("23: no DRAW of SHARES of one", byOne, 1 * 1103515245 * 1103515245 + 12345 * 1103515245 + 12345);
        Due.is("23: which is the second", third != byOne, true);
        // Sum 8: BOX; 38526 % 8 = 6: the teacher; BOX; 50283 % 8 = 3: the teacher.
        x.play(2);
        Due.is("23: no DRAW of a fool", x.seed(1), fourth);
        x.seed(7);
        // 9806 % 8 = 6, 22674 % 8 = 2: the fool, with a DRAW of its own.
        x.play(2);
        int fifthOfSeven = 7;
        for (int i = 0; i < 5; i++) {
            fifthOfSeven = fifthOfSeven * 1103515245 + 12345;
        }
        Due.is("23: a DRAW of a fool of several", x.seed(1), fifthOfSeven);

        x = even("n7/3", 1, "m1;t1;r1:1");
        x.side(1);
        // 16838 % 3 = 2: the third: two of 7.
        x.play(0);
        Due.is("23: by SHARES", x.row(0), 1);
        x.seed(7);
        // 52332 % 3 = 0: the master: three of 7.
        x.play(0);
        Due.is("23: a master", x.row(0), 2);
        x.seed(-1);
        // 48697 % 3 = 1: the teacher: one of 7.
        x.play(0);
        Due.is("23: a teacher", x.row(0), 0);
        x = even("n7/3", 1, "r87:1");
        x.side(1);
        x.play(0);
        Due.is("23: the first of all, if none may be done", x.row(0), 0);
        x = Due.with("g3x3k3");
        Due.is("23: a wrong foe", Due.foe(x, "r45:0"), -5);
        Due.is("23: nothing of it", Due.foe(x, "r4:1"), 0);
        x.side(0);
        x.open(0);
        x.out(0, 0, 4);
        x.out(0, 1, 4);
        x.play(0);
        Due.is("23: the middle is taken, so the first of all", x.row(0) * 10 + x.row(1), 40);
        x = even("g3x3k3", 1, "r421:1");
        x.side(1);
        x.play(0);
        Due.is("23: the first told, not the least", x.row(0), 4);
    }

    private static void movesLedBack() {
        BoxesWithBeads x = even("g3x3k3", 1, "r2:1", "r6:1", "r8:1");
        x.side(1);
        x.open(1);
        int[] others = {2, 4, 5, 8};
        for (int m : others) {
            x.out(1, m, 1);
        }
        // The kind is 1, beside the corner: by the first turn, a mirror, not by a quarter turn.
        x.play(0);
        Due.is("23: stone at 2", x.row(1), 1);
        x.play(1);
        Due.is("23: stone at 6", x.row(1), 7);
        x.play(2);
        Due.is("23: stone at 8", x.row(1), 7);
        x = even("g3x3k3", 1, "r5:1", "r7:1", "r1:1", "r3:1");
        x.side(1);
        x.open(3);
        // A stone at 1: kinds 0 (and 2), 3, 4, 6, 7.
        int[] rest = {3, 4, 6, 7};
        for (int m : rest) {
            x.out(3, m, 1);
        }
        x.play(0);
        // 5 = (2, 1) is led to 1 by (y, -x) first, of (-y, -x) too: 0 comes from 2.
        Due.is("23: stone at 5", x.row(1), 2);
        x.play(1);
        Due.is("23: stone at 7", x.row(1), 6);
        x.play(2);
        Due.is("23: stone at 1", x.row(1), 0);
        x.play(3);
        Due.is("23: stone at 3", x.row(1), 0);
        x.likeness(false);
        x.open(243);
        x.put(243, 8, 99);
        x.seed(1);
        x.play(0);
        Due.is("23: as it is", x.row(1), 8);
    }

    /** Two turns of a quarter lead this board to its BOX, and none before them: the first one counts. */
    private static void movesLedByQuarters() {
        BoxesWithBeads x = even("g3x3k3", 1, "r08:1");
        int board = 3 + 2 + 2187 + 13122;
        Due.is("23: its BOX", x.like(board), 27 + 18 + 243 + 1458);
        x.open(0);
        x.out(0, 0, 1);
        x.out(0, 4, 1);
        Due.is("23: behind 1 and 0", x.open(5), 7);
        for (int m = 2; m < 9; m++) {
            Due.is("23: none of them", x.out(5, m, 1), 0);
        }
        x.put(5, 7, 1);
        Due.is("23: three kinds", x.open(board), 3);
        Due.is("23: 2 and 6 are like", x.out(board, 2, 1), 0);
        Due.is("23: 3 and 5 are like", x.out(board, 5, 1), 0);
        Due.is("23: the middle", x.out(board, 4, 1), 0);
        x.put(board, 2, 1);
        x.play(0);
        Due.is("23: led to 0 by (-y, x), so 6", x.row(4), 6);
        x.out(board, 6, 1);
        x.put(board, 5, 1);
        x.play(0);
        Due.is("23: led to 1 by (-y, x), so 3", x.row(4), 3);
        x.side(1);
        Due.is("23: the row of the first moves", x.row(0) * 1000 + x.row(1) * 100 + x.row(2) * 10 + x.row(3), 1078);
    }

    private static void pays() {
        BoxesWithBeads x = even("n5/1", 3, "r0:1");
        Due.rule(x, "w+2");
        Due.rule(x, "w+2*");
        Due.rule(x, "w+2*;w-1");
        Due.rule(x, "w-9;l+9;d+9");
        Due.rule(x, "w-1*");
        Due.rule(x, "w+0");
        x.pay(0);
        Due.is("23: WON", x.play(0), 2);
        hasBeads(x, 5, 5, 5);
        x.pay(1);
        x.play(0);
        hasBeads(x, 7, 9, 11);
        x.pay(2);
        x.play(0);
        hasBeads(x, 6, 8, 10);
        Due.is("23: SPENT", x.count(2), 3);
        x.pay(4);
        x.play(0);
        hasBeads(x, 5, 6, 7);
        Due.is("23: SPENT", x.count(2), 9);
        x.pay(5);
        x.play(0);
        hasBeads(x, 5, 6, 7);
        x.pay(3);
        x.play(0);
        hasBeads(x, 0, 0, 0);
        Due.is("23: no more than there are", x.count(2), 27);
        Due.is("23: the BAG", x.count(1), 10000 - 27);
        Due.is("23: RESIGNED", x.play(0), 3);
        hasBeads(x, 0, 0, 0);
    }

    private static void hasBeads(BoxesWithBeads x, int first, int second, int third) {
        Due.is("23: the first BOX", x.beads(10, 0), first);
        Due.is("23: the second BOX", x.beads(6, 0), second);
        Due.is("23: the third BOX", x.beads(2, 0), third);
    }

    private static void paysByOrder() {
        BoxesWithBeads x = even("n6/1", 3, "r0:1");
        Due.rule(x, "l-1");
        Due.rule(x, "d+5;w+5");
        Due.rule(x, "l+40*");
        x.pay(0);
        Due.is("23: LOST", x.play(0), 0);
        Due.is("23: first", x.beads(12, 0), 2);
        Due.is("23: last", x.beads(4, 0), 2);
        x.pay(1);
        x.play(0);
        Due.is("23: nothing for LOST", x.beads(12, 0), 2);
        // 50 beads in the BAG: the first one gets 40, the second 10 of its 80, the third none.
        int left = 10000 - 3 - 6 - 50;
        while (left > 0) {
            int n = Math.min(99, left);
            x.put(12, 0, n);
            left -= n;
        }
        Due.is("23: 50 in the BAG", x.count(1), 50);
        x.pay(2);
        x.play(0);
        Due.is("23: 40", x.beads(12, 0), 2 + 10000 - 59 + 40);
        Due.is("23: 10", x.beads(8, 0), 12);
        Due.is("23: none", x.beads(4, 0), 2);
        Due.is("23: the BAG", x.count(1), 0);
        x = even("g1x1k3", 3, "f1");
        Due.rule(x, "w+9;l+8;d+7");
        x.pay(0);
        Due.is("23: DRAWN", x.play(0), 1);
        Due.is("23: paid so", x.beads(0, 0), 10);
    }

    private static void refills() {
        BoxesWithBeads x = even("n4/1", 1, "r0:1");
        Due.rule(x, "l-1;e5");
        Due.rule(x, "l-1;e5;e0");
        Due.rule(x, "l-1;e0;e2");
        x.pay(0);
        Due.is("23: LOST", x.play(0), 0);
        Due.is("23: so many again", x.beads(8, 0), 5);
        Due.is("23: so many again", x.beads(4, 0), 5);
        Due.is("23: SPENT", x.count(2), 2);
        x.out(8, 0, 4);
        x.pay(1);
        x.play(0);
        Due.is("23: the last e counts", x.beads(8, 0), 0);
        Due.is("23: not empty", x.beads(4, 0), 4);
        x.put(8, 0, 1);
        x.pay(2);
        x.play(0);
        Due.is("23: the last e counts", x.beads(8, 0), 2);
        x = even("n1/1m", 1, "f1");
        Due.is("23: a wrong rule", Due.rule(x, "w+9;d+9;e5;x"), -12);
        Due.is("23: nothing of it", Due.rule(x, "l-1"), 0);
        Due.is("23: a wrong rule", Due.rule(x, "l+9*;d+9;w+9;"), -14);
        Due.is("23: nothing of it", Due.rule(x, "e1"), 1);
        x.pay(0);
        x.play(0);
        Due.is("23: no e", x.beads(2, 0), 0);
        x.put(2, 0, 1);
        x.pay(1);
        x.play(0);
        Due.is("23: no l", x.beads(2, 0), 1);
        x = even("n3/2m", 1, "r0:1");
        Due.rule(x, "l-1;e2");
        x.pay(0);
        // 16838 % 2 = 0: one, one, and the last one is LOST.
        Due.is("23: LOST", x.play(0), 0);
        Due.is("23: one of two is gone", x.beads(6, 0), 0);
        Due.is("23: not empty, so none come", x.beads(6, 1), 1);
        Due.is("23: empty", x.beads(2, 0), 2);
        x = even("g3x3k3", 0, "r0:1");
        Due.rule(x, "e3");
        x.pay(0);
        Due.is("23: RESIGNED at the first", x.play(0), 3);
        Due.is("23: each of its kinds", x.count(0), 9);
        Due.is("23: as in FRESH", x.beads(0, 8), 3);
    }

    private static void refillsTheResigned() {
        BoxesWithBeads x = even("n6/1", 2, "r0:1");
        x.open(4);
        x.out(4, 0, 2);
        Due.rule(x, "l-2;e7");
        Due.rule(x, "l+3*");
        x.pay(0);
        Due.is("23: RESIGNED at the third", x.play(0), 3);
        Due.row("23: RESIGNED", x, 0, 0, 0, 0);
        Due.is("23: paid as LOST", x.count(2), 4);
        Due.is("23: the first", x.beads(12, 0), 7);
        Due.is("23: the last", x.beads(4, 0), 7);
        x.out(4, 0, 7);
        x.pay(1);
        x.play(0);
        Due.is("23: ahead of none", x.beads(12, 0), 10);
        Due.is("23: ahead of it one", x.beads(8, 0), 13);
        Due.is("23: nothing was drawn there", x.beads(4, 0), 0);
        // 9 beads in the BAG as a game begins.
        BoxesWithBeads y = even("n6/1", 2, "r0:1");
        Due.rule(y, "l-2;e7");
        y.pay(0);
        y.open(12);
        y.open(4);
        y.out(4, 0, 2);
        int left = 10000 - 2 - 9;
        while (left > 0) {
            int n = Math.min(99, left);
            y.put(12, 0, n);
            left -= n;
        }
        Due.is("23: in the BAG", y.count(1), 9);
        Due.is("23: RESIGNED", y.play(0), 3);
        // The second BOX took 2 as it was opened, and they are SPENT; e gives it all 7, so that the last one has none.
        Due.is("23: 7 of 7", y.beads(8, 0), 7);
        Due.is("23: last, none", y.beads(4, 0), 0);
        Due.is("23: the BAG", y.count(1), 0);
    }

    private static void bagOfNone() {
        BoxesWithBeads x = even("n4/2", 1, "r0:1");
        x.open(8);
        int left = 9998;
        while (left > 0) {
            int n = Math.min(99, left);
            x.put(8, 0, n);
            left -= n;
        }
        Due.is("23: an empty BAG", x.count(1), 0);
        // One of 4, one, and the BOX of 2 gets nothing.
        Due.is("23: RESIGNED at a new BOX", x.play(0), 3);
        Due.row("23: RESIGNED", x, 0, 0);
        Due.is("23: opened without", x.beads(4, 0), 0);
        Due.is("26: odds", x.odds(0), 0);
        long one = ALL / 10000;
        Due.row("26: the opened one is as it is, the unopened one as if it got beads", x, one, 0, ALL - one);
    }

    private static void runs() {
        BoxesWithBeads x = even("n4/2", 1, "r0:1");
        Due.is("24: none played", x.run(0, 0), 0);
        Due.row("24: none played", x, 0, 0, 0);
        // As in play: LOST by 2 draws, WON by 2, WON.
        Due.is("24: three", x.run(0, 3), 2);
        Due.row("24: three", x, 0, 1, 0);
        Due.is("24: counted", x.count(6), 3);
        Due.is("24: counted", x.count(7), 2);
        Due.is("24: counted", x.count(9), 1);
        Due.is("24: 200", x.run(0, 200) > 0, true);
        Due.is("24: counted", x.count(6), 203);
        Due.is("24: 201", x.run(0, 201), -1);
        Due.is("24: below 0", x.run(0, -1), -1);
        Due.is("24: none such", x.run(1, 1), -1);
        Due.is("24: none such", x.run(-1, 1), -1);
        Due.is("24: nothing changed", x.count(6), 203);
        Due.is("24: the row stays", x.row(0) + x.row(1) + x.row(2) + x.count(7) - 2, 200);

        x = even("g1x1k3", 2, "f1");
        Due.rule(x, "d-1");
        x.pay(0);
        Due.is("24: none WON", x.run(0, 5), 0);
        Due.row("24: two DRAWN, three RESIGNED", x, 2, 3, 3);
        x.put(0, 0, 1);
        Due.is("24: none WON once more", x.run(0, 4), 0);
        Due.row("24: of this run alone", x, 1, 3, 3);
        Due.is("24: LOST are with them", x.count(9), 6);
        Due.is("24: RESIGNED", x.count(10), 6);
        x = even("n2/1", 1, "f1");
        x.run(0, 4);
        Due.row("24: LOST, not RESIGNED", x, 0, 4, 0);
    }

    private static void comes() {
        BoxesWithBeads x = even("n4/2m", 4, "r0:1");
        Due.rule(x, "w+1;l-2");
        Due.is("25: below 0", x.come(0, -1), -1);
        Due.is("25: 101", x.come(0, 101), -1);
        Due.is("25: none such", x.come(1, 5), -1);
        Due.is("25: none such", x.come(-1, 5), -1);
        Due.is("25: asked, not 0", x.come(0, 0), -2);
        Due.is("25: none played", x.count(6), 0);
        x.pay(0);
        int games = x.come(0, 100);
        Due.is("25: it comes", games >= 0, true);
        Due.is("25: so many played", x.count(6), games);
        Due.is("25: no row", x.count(16), 0);
        x.odds(0);
        Due.is("25: LOST are 0", x.row(2), 0);
        Due.is("25: at once", x.come(0, 0), 0);
        Due.is("25: at once", x.come(0, 100), 0);
        Due.is("25: none more", x.count(6), games);

        BoxesWithBeads y = even("n4/2m", 4, "r0:1");
        Due.rule(y, "w+1;l-2");
        y.pay(0);
        for (int i = 0; i < games; i++) {
            y.odds(0);
            Due.is("25: not 0 ahead of game " + i, y.row(2) > 0, true);
            y.play(0);
        }
        y.odds(0);
        Due.is("25: 0 behind them", y.row(2), 0);
        y = even("n4/2m", 4, "r0:1");
        Due.rule(y, "w+1;l-2");
        y.pay(0);
        Due.is("25: one less is too few", y.come(0, games - 1), -2);
        Due.is("25: they are played", y.count(6), games - 1);
        Due.is("25: one more", y.come(0, 1), 1);

        x = even("n1/1m", 1, "f1");
        Due.is("25: never", x.come(0, 7), -2);
        Due.is("25: 7 played", x.count(6), 7);
        x = even("n1/1m", 3, "f1");
        Due.rule(x, "l-1");
        x.pay(0);
        Due.is("25: an empty BOX is LOST too", x.come(0, 100), -2);
        Due.is("25: 97 RESIGNED", x.count(10), 97);
    }

    private static void odds() {
        BoxesWithBeads x = even("n3/3", 5, "f1", "f1;r2:2", "m1", "t1", "r1:1");
        x.side(1);
        Due.is("26: none such", x.odds(-1), -1);
        Due.is("26: none such", x.odds(5), -1);
        Due.is("26: no row", x.count(16), 0);
        x.open(5);
        x.out(5, 0, 4);
        x.out(5, 1, 3);
        // 2 left: 1 bead for one (LOST), 2 for both (WON); 1 left: WON; none left: LOST.
        Due.is("26: a fool", x.odds(0), 0);
        Due.row("26: a fool, cut", x, (666666666L + ALL) / 3, 0, (333333333L + ALL) / 3);
        Due.is("26: several", x.odds(1), 0);
        Due.row("26: several, cut", x, 555555555L / 3, 0, (444444444L + 2 * ALL) / 3);
        x.odds(2);
        Due.row("26: a master", x, 0, 0, ALL);
        x.odds(3);
        Due.row("26: a teacher", x, 666666666L, 0, 333333333L);
        x.odds(4);
        Due.row("26: an unopened one", x, ALL, 0, 0);
        Due.is("26: nothing opened", x.count(3), 1);
        Due.is("26: nothing drawn", x.seed(1), 1);
        Due.is("26: nothing played", x.count(6), 0);
        x.out(5, 0, 1);
        x.out(5, 1, 2);
        x.odds(3);
        Due.row("26: no beads", x, 0, 0, ALL);
        x.fresh(2, 0);
        x.odds(4);
        Due.row("26: FRESH of none", x, 0, 0, ALL);
    }

    private static void oddsOfFoes() {
        BoxesWithBeads x = even("g2x1k2", 4, "f1", "m1;t3");
        Due.is("26: DRAWN", x.odds(0), 0);
        Due.row("26: DRAWN", x, 0, ALL, 0);
        x = even("g3x1k2", 4, "f1", "r0:1;r2:1", "r2:5;r0:2");
        // Kinds 0 and 1. Behind 1 it is WON. Behind 0: the FOE at 1: DRAWN, at 2: WON.
        x.odds(0);
        Due.row("26: halves", x, 750000000L, 250000000L, 0);
        x.odds(1);
        // Behind the middle both are WON; behind 0 the first is refused its 0 and takes 1: DRAWN; the second is WON.
        Due.row("26: of several", x, 750000000L, 250000000L, 0);
        x.odds(2);
        long won = 5 * ALL / 7;
        long drawn = 2 * ALL / 7;
        Due.row("26: by SHARES", x, (4 * won + 4 * (7 * ALL / 7)) / 8, 4 * drawn / 8, 0);
        x = even("g3x1k2", 4, "m9", "f9");
        x.odds(0);
        Due.row("26: the SHARE of one alone does not matter", x, ALL / 2, ALL / 2, 0);
        x.odds(1);
        Due.row("26: the SHARE of one alone does not matter", x, 750000000L, 250000000L, 0);
        x = even("n1/1", 1, "f1");
        x.odds(0);
        Due.row("26: the first move wins", x, ALL, 0, 0);
        x.side(1);
        x.odds(0);
        Due.row("26: it never moves", x, 0, 0, ALL);
    }

    private static void oddsOfLike() {
        // The FOE answers unlike ways on like boards: each board has ODDS of its own though the BOX is one.
        BoxesWithBeads x = even("g3x1k2", 1, "r0:1;r2:1", "r0:1", "r2:1");
        x.side(1);
        x.open(1);
        Due.is("26: middle and end", x.count(0), 2);
        x.out(1, 1, 1);
        // The end alone is left: then the FOE has 0 and 1, or 2 and 1: LOST.
        x.odds(0);
        Due.row("26: both", x, 0, 0, ALL);
        x.put(1, 1, 1);
        x.odds(1);
        Due.row("26: at 0", x, 0, ALL / 2, ALL / 2);
        x.odds(2);
        Due.row("26: at 2", x, 0, ALL / 2, ALL / 2);
        x = even("g3x3k3", 1, "r0:1;r8:1", "r021:1");
        x.odds(0);
        long sum = x.row(0) + x.row(1) + x.row(2);
        Due.is("26: nearly all", sum <= ALL && sum > ALL - 100, true);
    }

    private static void ways() {
        BoxesWithBeads x = even("n3/3", 5, "f1", "m1");
        x.side(1);
        x.open(5);
        x.out(5, 0, 4);
        x.out(5, 1, 3);
        Due.is("27: one game", x.ways(0, 1), 0);
        // The fool takes one: 1 of 3 and 2 of 3 beads; two: then a new BOX of 5; three.
        Due.row("27: one game", x, 4, 999999999L, 333333333L * (3 + 3 + 8), 8, 3);
        Due.is("27: nothing opened", x.count(3), 1);
        Due.is("27: R stays", x.seed(9), 1);
        Due.is("27: nothing played", x.count(6), 0);
        x.ways(0, 1);
        Due.row("27: R does not matter", x, 4, 999999999L, 333333333L * 14, 8, 3);
        Due.is("27: no game", x.ways(0, 0), 0);
        Due.row("27: no game", x, 1, ALL, 3 * ALL, 3, 3);
        Due.is("27: two games", x.ways(0, 2), 0);
        Due.is("27: two games: ways", x.row(0), 16);
        Due.is("27: two games: the most beads", x.row(3), 8);
        Due.is("27: three games", x.ways(0, 3), 0);
        Due.is("27: three games: ways", x.row(0), 64);
        Due.is("27: a master", x.ways(1, 3), 0);
        Due.row("27: a master", x, 1, ALL, 3 * ALL, 3, 3);
        x.out(5, 0, 1);
        x.ways(0, 1);
        // Without a bead aside: the fool takes one, then two are taken.
        Due.row("27: those without a bead aside", x, 3, 999999999L, 333333333L * (2 + 2 + 7), 7, 2);
        x.out(5, 1, 2);
        x.ways(0, 1);
        Due.row("27: RESIGNED", x, 3, 999999999L, 333333333L * (0 + 0 + 5), 5, 0);
    }

    private static void waysOfFoes() {
        BoxesWithBeads x = even("n3/3", 1, "m1;t1;f1", "f1;f2", "r0:3;r0:4", "m9");
        x.side(1);
        // The master takes all; the teacher one, then 1 or 2 by beads 1 and 1; the fool each of them.
        Due.is("27: several", x.ways(0, 1), 0);
        // The second time the FOE moves (1 left, three parts) all three take the last.
        long part = ALL / 3;
        long one = part / 2;
        long fool = part / 3;
        long foolsOne = fool / 2;
        long chances = part + one + 3 * (one / 3) + fool + fool + foolsOne + 3 * (foolsOne / 3);
        long beads = 2 * (one + 3 * (one / 3)) + fool + 2 * (foolsOne + 3 * (foolsOne / 3));
        Due.row("27: several", x, 1 + 1 + 3 + 1 + 1 + 1 + 3, chances, beads, 2, 0);
        x.ways(1, 1);
        Due.is("27: two fools: each move by each of them", x.row(0), 2 * (1 + 1 + 1 + 2));
        x.ways(2, 1);
        // Parts that do the same are unlike draws: 2 * (one + 2) ways.
        long a = ALL * 3 / 7;
        long b = ALL * 4 / 7;
        long sum = a / 2 + b / 2 + a / 2 * 3 / 7 + a / 2 * 4 / 7 + b / 2 * 3 / 7 + b / 2 * 4 / 7;
        Due.row("27: parts alike", x, 6, sum, 2 * sum, 2, 2);
        x.ways(3, 1);
        Due.row("27: one part has no draw", x, 1, ALL, 0, 0, 0);
        x = Due.with("n1/1", "f1;f1");
        x.ways(0, 3);
        Due.row("27: no move of the FOE", x, 1, ALL, 4 * ALL, 4, 4);
        x = even("g3x3k3", 1, "m1");
        Due.is("27: kinds, not moves", x.ways(0, 0), 0);
        x.open(0);
        x.out(0, 0, 1);
        x.out(0, 1, 1);
        x.sheet(3, 0, 0, 0);
        x.ways(0, 1);
        Due.row("27: the middle, then RESIGNED", x, 1, ALL, ALL, 1, 1);
    }

    private static void waysOfPay() {
        BoxesWithBeads x = even("n3/2", 2, "r0:1");
        Due.rule(x, "w+3;l-1;e2");
        x.pay(0);
        // One of 3, one, one: WON: 2 and 2 beads, and 2 of the last: then +3 twice. Two of 3: the FOE has the last.
        Due.is("27: paid", x.ways(0, 1), 0);
        Due.row("27: paid", x, 2, ALL, ALL / 2 * 12 + ALL / 2 * 3, 12, 3);
        Due.is("27: two games", x.ways(0, 2), 0);
        // Behind WON: 5 and 2 of 7: WON 18, LOST 11; behind LOST: 2 and 1 of 3: WON 3 + 2 + 6 = 11, LOST 2.
        long half = ALL / 2;
        long w5 = half * 5 / 7;
        long w2 = half * 2 / 7;
        long l2 = half * 2 / 3;
        long l1 = half / 3;
        Due.row("27: two games", x, 4, w5 + w2 + l2 + l1, w5 * 18 + w2 * 11 + l2 * 11 + l1 * 2, 18, 2);
        Due.is("27: nothing changes", x.count(0), 0);
        Due.is("27: nothing is SPENT", x.count(2), 0);
        Due.is("27: all in the BAG", x.count(1), 10000);
        // Two ways come to one empty BOX; what e puts there in the one is not there in the other.
        x = even("n4/2", 2, "r0:1;r0:1");
        x.side(1);
        x.open(7);
        x.out(7, 0, 2);
        x.out(7, 1, 2);
        Due.rule(x, "e2");
        x.pay(0);
        x.ways(0, 1);
        Due.row("27: e in the last BOX", x, 2, ALL, 4 * ALL, 4, 4);
        x.side(1);
        x.sheet(3, 0, 0, 0);
        x.ways(0, 1);
        Due.row("27: e in a BOX that was not opened", x, 2, ALL, 4 * ALL, 4, 4);
        Due.is("27: nor is it behind them", x.count(3), 0);
        x = even("n1/1m", 1, "f1");
        Due.rule(x, "l-1;e4");
        x.pay(0);
        x.ways(0, 1);
        Due.row("27: e in a way", x, 1, ALL, 4 * ALL, 4, 4);
        x.ways(0, 2);
        Due.row("27: e in a way", x, 1, ALL, 3 * ALL, 3, 3);
    }

    private static void waysTooMany() {
        BoxesWithBeads x = even("n7/2", 1, "r0:1;r1:1;f1;f1;f1;f1");
        x.side(1);
        Due.is("27: 3000", x.ways(0, 1), 0);
        Due.is("27: 3000 ways", x.row(0), 3000);
        x = even("n7/3", 1, "r0:1;r0:1;r0:1;r0:1;r2:1;f1;f1;f1");
        x.value(14);
        Due.is("27: 3001", x.ways(0, 1), -3);
        Due.row("27: the row stays", x, 2);
        Due.is("27: nothing opened", x.count(3), 0);
        Due.is("27: R stays", x.seed(1), 1);
        x = even("g3x3k3", 4, "f1");
        Due.is("27: far too many", x.ways(0, 3), -3);
        Due.is("27: far too many", x.ways(0, 1), -3);
        Due.is("27: no game", x.ways(0, 0), 0);
        Due.row("27: no game", x, 1, ALL, 0, 0, 0);
    }

    private static void refused() {
        BoxesWithBeads x = even("n3/3", 1, "f1");
        x.value(6);
        Due.is("23: none such", x.play(-1), -1);
        Due.is("23: none such", x.play(1), -1);
        Due.is("23: none such", x.play(Integer.MAX_VALUE), -1);
        Due.is("27: none such", x.ways(1, 1), -1);
        Due.is("27: none such", x.ways(-1, 1), -1);
        Due.is("27: below 0", x.ways(0, -1), -1);
        Due.is("27: 4", x.ways(0, 4), -1);
        Due.row("27: the row stays", x, 2);
        Due.is("23: nothing played", x.count(6), 0);
    }
}
