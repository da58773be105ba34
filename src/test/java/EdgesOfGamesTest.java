import java.util.ArrayList;
import java.util.List;
import java.util.function.Supplier;

/** The edges that promises 23 to 27 name, each by itself, and what Terms 2 and 3 say of DRAWS, RULES, FOES and ODDS. */
public final class EdgesOfGamesTest {
    private static final long ALL = 1000000000L;
    private static final int[] NO_FOES = {-1, -2, 3, 4, 8, Integer.MIN_VALUE, Integer.MAX_VALUE};

    public static void main(String[] args) {
        drawsByBeads();
        drawsWithoutSign();
        drawsOfOne();
        drawsOfShares();
        drawsOfFools();
        wishes();
        mastersAndTeachers();
        ends();
        playsRefused();
        playsShortAndLong();
        opensAsDrawn();
        paysByEnd();
        paysByNumber();
        paysTimes();
        paysFromTheBag();
        linesToldLast();
        refillsByNumber();
        refillsInOrder();
        resigns();
        runsRefused();
        runsByNumber();
        comesRefused();
        comesAsked();
        comesByNumber();
        Due.close("EdgesOfGamesTest");
    }

    private static BoxesWithBeads even(String game, int each, String... foes) {
        BoxesWithBeads x = Due.with(game, foes);
        x.sheet(2, 21, each, 0);
        return x;
    }

    private static BoxesWithBeads ruled(String game, int each, String rule, String... foes) {
        BoxesWithBeads x = even(game, each, foes);
        Due.is("rule " + rule, Due.rule(x, rule), 0);
        x.pay(0);
        return x;
    }

    // Terms 2: "A DRAW of n things: R = R times 1103515245 + 12345 (as ints ..); the thing (R without sign, by 65536)
    // % n. From a BOX: of all its beads, in the order of MOVES."

    private static void drawsByBeads() {
        int[] beads = {3, 0, 2};
        BoxesWithBeads x = even("n9/3", 0, "r2:1");
        x.open(18);
        for (int m = 0; m < 3; m++) {
            if (beads[m] > 0) {
                x.put(18, m, beads[m]);
            }
        }
        for (int thing = 0; thing < 5; thing++) {
            x.seed(Whole.seedFor(new int[] {5}, thing));
            x.play(0);
            Due.is("23: thing " + thing + " of 3, 0 and 2", x.row(0), thing < 3 ? 0 : 2);
        }
        x.out(18, 0, 3);
        for (int thing = 0; thing < 2; thing++) {
            x.seed(Whole.seedFor(new int[] {2}, thing));
            x.play(0);
            Due.is("23: thing " + thing + " of 0, 0 and 2", x.row(0), 2);
        }
        // Of the last of very many beads.
        x = ruled("n2/2", 1, "w+99;l+99", "r0:1");
        x.run(0, 200);
        int first = x.beads(4, 0);
        Due.is("23: all are there", x.count(1), 0);
        Due.is("23: and all are in the BOX", first + x.beads(4, 1), 10000);
        x.pay(-1);
        for (int thing : new int[] {0, first - 1, first, 9999}) {
            x.seed(Whole.seedFor(new int[] {10000}, thing));
            x.play(0);
            Due.is("23: thing " + thing + " of 10000", x.row(0), thing < first ? 0 : 1);
        }
    }

    private static void drawsWithoutSign() {
        BoxesWithBeads x = even("n9/3", 1, "r2:1");
        x.open(18);
        int[] left = {0, 65535, 65536, 131071, 131072, Integer.MAX_VALUE, Integer.MIN_VALUE, -65536, -1, -65537};
        int[] upper = {0, 0, 1, 1, 2, 32767, 32768, 65535, 65535, 65534};
        for (int i = 0; i < left.length; i++) {
            int seed = Whole.seedAhead(left[i]);
            x.seed(seed);
            x.out(18, 0, 1);
            x.put(18, 0, 1);
            Due.is("12: R is as told", x.seed(seed), seed);
            x.play(0);
            Due.is("23: R of " + left[i] + ": thing " + upper[i] % 3, x.row(0), upper[i] % 3);
        }
        x = even("n1/1", 1, "f1");
        for (int r : left) {
            x.seed(Whole.seedAhead(r));
            x.play(0);
            Due.is("23: R goes on as " + r, x.seed(0), r);
        }
    }

    /** Of one thing R goes on too; "(also if one MOVE alone may be done)"; no beads: no DRAW. */
    private static void drawsOfOne() {
        String[] foes = {"f1", "m1", "t1", "r0:1", "m1;m1", "f1;f1", "m1;f1", "f1;m1"};
        // The FOE's one MOVE: none, SHARES alone, or SHARES and a fool's (of two parts the first or the second).
        for (int i = 0; i < foes.length; i++) {
            BoxesWithBeads x = even("n2/1", 1, foes[i]);
            int seed = 3;
            x.seed(seed);
            Due.is("23: LOST", x.play(0), 0);
            boolean second = Whole.draw(seed, 2) % 2 == 1;
            int draws = 1 + (i == 0 ? 1 : i < 4 ? 0 : i == 4 ? 1 : i == 5 ? 2 : (i == 6) == second ? 2 : 1);
            Due.is("23: R behind " + foes[i], x.seed(0), nth(seed, draws));
        }
        BoxesWithBeads x = even("n2/1", 0, "f1");
        x.seed(77);
        Due.is("23: no beads", x.play(0), 3);
        Due.is("23: no DRAW", x.seed(0), 77);
    }

    private static int nth(int seed, int n) {
        int r = seed;
        for (int i = 0; i < n; i++) {
            r = r * 1103515245 + 12345;
        }
        return r;
    }

    /** "If there are two or more, a DRAW of the sum of SHARES tells which one it is". */
    private static void drawsOfShares() {
        // Of 7 by 3 the master takes three, the teacher one, the third two: SHARES 9, 1 and 9.
        BoxesWithBeads x = even("n7/3", 1, "m9;t1;r1:9", "t1;m1", "r1:9");
        x.side(1);
        for (int thing = 0; thing < 19; thing++) {
            x.seed(Whole.seedFor(new int[] {19}, thing));
            x.play(0);
            Due.is("23: thing " + thing + " of 19", x.row(0), thing < 9 ? 2 : thing < 10 ? 0 : 1);
        }
        for (int thing = 0; thing < 2; thing++) {
            x.seed(Whole.seedFor(new int[] {2}, thing));
            x.play(1);
            Due.is("23: thing " + thing + " of 2", x.row(0), thing == 0 ? 0 : 2);
            x.play(2);
            Due.is("23: one alone", x.row(0), 1);
        }
        // Thirteen parts: the most that 40 signs have.
        BoxesWithBeads y = even("n3/3", 1, "t1;t1;t1;t1;t1;t1;t1;t1;t1;t1;t1;t1;m1");
        y.side(1);
        for (int thing : new int[] {0, 11, 12}) {
            y.seed(Whole.seedFor(new int[] {13}, thing));
            y.play(0);
            Due.is("23: thing " + thing + " of 13", y.row(0), thing < 12 ? 0 : 2);
        }
    }

    /** "a MOVE that may be done, by a DRAW of all". */
    private static void drawsOfFools() {
        BoxesWithBeads x = even("g3x3k3", 1, "f1", "m1;f1");
        x.side(1);
        for (int thing = 0; thing < 9; thing++) {
            x.seed(Whole.seedFor(new int[] {9}, thing));
            x.play(0);
            Due.is("23: a fool's first, thing " + thing, x.row(0), thing);
            x.seed(Whole.seedFor(new int[] {2, 9}, 1, thing));
            x.play(1);
            Due.is("23: a fool of several, thing " + thing, x.row(0), thing);
        }
        // THE CHEST has one bead in the middle: eight MOVES are left, 4 is none of them.
        x = even("g3x3k3", 0, "f1");
        x.open(0);
        x.put(0, 4, 1);
        for (int thing = 0; thing < 8; thing++) {
            x.seed(Whole.seedFor(new int[] {1, 8}, 0, thing));
            Due.is("23: RESIGNED behind it", x.play(0), 3);
            Due.row("23: thing " + thing + " of eight", x, 4, thing < 4 ? thing : thing + 1);
        }
        x = even("n9/3", 1, "f1");
        x.side(1);
        for (int thing = 0; thing < 3; thing++) {
            x.seed(Whole.seedFor(new int[] {3}, thing));
            x.play(0);
            Due.is("23: of a heap, thing " + thing, x.row(0), thing);
        }
    }

    /** "the first of these MOVES that may be done; the first of all, if none". */
    private static void wishes() {
        String[] foes = {"r0:1", "r8:1", "r876543210:1", "r48:1", "r4:1", "r04:1", "r40:1", "r45:1"};
        // THE CHEST puts its first stone at 4.
        int[] want = {0, 8, 8, 8, 0, 0, 0, 5};
        for (int i = 0; i < foes.length; i++) {
            BoxesWithBeads x = even("g3x3k3", 0, foes[i]);
            x.open(0);
            x.put(0, 4, 1);
            x.play(0);
            Due.row("23: " + foes[i], x, 4, want[i]);
        }
        String[] ofHeap = {"r8:1", "r3:1", "r2:1", "r82:1", "r876543210:1", "r12:1", "r831:1"};
        int[] taken = {0, 0, 2, 2, 2, 1, 1};
        for (int i = 0; i < ofHeap.length; i++) {
            BoxesWithBeads x = even("n9/3", 1, ofHeap[i]);
            x.side(1);
            x.play(0);
            Due.is("23: of a heap, " + ofHeap[i], x.row(0), taken[i]);
        }
        // Two are left: three can't be taken.
        BoxesWithBeads x = even("n3/3", 1, "r2:1", "r21:1");
        x.open(6);
        x.out(6, 1, 1);
        x.out(6, 2, 1);
        x.play(0);
        Due.row("23: the first of all", x, 0, 0, 0);
        x.play(1);
        Due.row("23: the second wish", x, 0, 1);
    }

    /** "the first of its best MOVES", "the first of its worst": also if all are alike. */
    private static void mastersAndTeachers() {
        BoxesWithBeads x = even("n8/3", 1, "m1", "t1");
        x.side(1);
        x.play(0);
        Due.is("23: all are LOST: the first", x.row(0), 0);
        x.play(1);
        Due.is("23: all are LOST: the first", x.row(0), 0);
        // Of 5 one is the best to take; two and three are the worst. Of 6 two; of 7 three.
        int[] best = {0, 1, 2};
        int[] worst = {1, 0, 0};
        for (int i = 0; i < 3; i++) {
            x = even("n" + (5 + i) + "/3", 1, "m1", "t1", "t9;t1", "m9;m1");
            x.side(1);
            x.play(0);
            Due.is("23: the best of " + (5 + i), x.row(0), best[i]);
            x.play(1);
            Due.is("23: the worst of " + (5 + i), x.row(0), worst[i]);
            x.play(2);
            Due.is("23: the worst of " + (5 + i), x.row(0), worst[i]);
            x.play(3);
            Due.is("23: the best of " + (5 + i), x.row(0), best[i]);
        }
        // A stone in the middle: the first of the edges is the worst, the corner ahead of it is the best.
        x = even("g3x3k3", 0, "m1", "t1");
        x.open(0);
        x.put(0, 4, 1);
        x.play(0);
        Due.row("23: the first corner", x, 4, 0);
        x.play(1);
        Due.row("23: the first edge", x, 4, 1);
        x = even("g3x3k1", 1, "m1", "t1");
        x.side(1);
        x.play(0);
        Due.row("23: all are WON: the first", x, 0);
        x.play(1);
        Due.row("23: all are WON: the first", x, 0);
        x = even("g3x3k3", 0, "m1", "t1");
        x.open(0);
        x.put(0, 0, 1);
        x.play(0);
        Due.row("23: the middle alone draws", x, 0, 4);
        x.play(1);
        Due.row("23: the first of those that lose", x, 0, 1);
    }

    // 23: "2 WON, 1 DRAWN, 0 LOST, 3 RESIGNED; the ROW: all MOVES, in order. NONE: none such."

    private static void ends() {
        String[] games = {"n1/1", "n1/1m", "n2/1", "n2/1m", "g1x1k1", "g1x1k1m", "g1x1k2", "g2x1k1", "g2x1k2", "g2x1k1m"};
        int[] first = {2, 0, 0, 2, 2, 0, 1, 2, 1, 0};
        int[] second = {0, 2, 2, 0, 0, 2, 1, 0, 1, 2};
        for (int i = 0; i < games.length; i++) {
            BoxesWithBeads x = even(games[i], 1, "r0:1");
            Due.is("23: " + games[i] + ", SIDE 0", x.play(0), first[i]);
            x.side(1);
            Due.is("23: " + games[i] + ", SIDE 1", x.play(0), second[i]);
        }
    }

    private static void playsRefused() {
        for (int foe : NO_FOES) {
            Whole.stays("23: play(" + foe + ") of 3", x -> x.play(foe), -1);
        }
        Due.is("23: no FOES", new BoxesWithBeads().play(0), -1);
        BoxesWithBeads x = Due.with("n1/1", "m1", "m1", "m1", "m1", "m1", "m1", "m1", "m1");
        Due.is("23: the eighth", x.play(7), 2);
        Due.is("23: no ninth", x.play(8), -1);
    }

    private static void playsShortAndLong() {
        BoxesWithBeads x = even("n20/1", 1, "r0:1");
        Due.is("23: twenty MOVES", x.play(0), 0);
        Due.is("23: twenty MOVES", x.count(16), 20);
        for (int i = 0; i < 20; i++) {
            Due.is("23: one by one", x.row(i), 0);
        }
        Due.is("23: ten BOXES", x.count(3), 10);
        Due.game(x, "n1/1");
        x.play(0);
        Due.row("23: one MOVE", x, 0);
        x.side(1);
        x.play(0);
        Due.row("23: one MOVE, of the FOE", x, 0);
        Due.is("23: no BOX", x.count(3), 0);
        x.side(0);
        x.fresh(0, 0);
        x.play(0);
        Due.row("23: none", x);
        x = even("n20/3", 0, "r2:1");
        x.side(1);
        Due.is("23: RESIGNED at its first", x.play(0), 3);
        Due.row("23: the FOE's MOVE alone", x, 2);
    }

    /** "A BOX is OPENED as it is first drawn from": not ahead of it, and not once more. */
    private static void opensAsDrawn() {
        BoxesWithBeads x = even("n6/2", 2, "r0:1");
        x.open(12);
        x.out(12, 1, 2);
        x.out(12, 0, 1);
        // One bead for one of 6; the FOE one; 4 are left.
        x.seed(Whole.seedFor(new int[] {1, 4}, 0, 0));
        x.play(0);
        Due.is("23: it was opened by hand", x.beads(12, 0), 1);
        Due.is("23: it has no others", x.beads(12, 1), 0);
        Due.is("23: opened as it was drawn from", x.beads(8, 0) + x.beads(8, 1), 4);
        Due.is("23: nobody came there", x.beads(6, 0), -2);
        x.out(8, 0, 2);
        x.out(8, 1, 2);
        x.fresh(2, 9);
        Due.is("23: not opened once more", x.play(0), 3);
        Due.is("23: it has none", x.beads(8, 0) + x.beads(8, 1), 0);
        // No beads to open it with: opened, and RESIGNED.
        x = even("n6/2", 0, "r0:1");
        Due.is("23: FRESH of none", x.play(0), 3);
        Due.is("23: it is opened", x.beads(12, 0), 0);
        Due.is("23: opened ones", x.count(3), 1);
    }

    // Terms 2, RULES: "so many beads of the MOVE that was drawn come to its BOX (from the BAG, as far as it has), or go
    // (SPENT, as far as there are), if the game was WON, DRAWN, LOST by THE CHEST".

    private static final String[] ENDS = {"n1/1m", "g1x1k3", "n1/1"};
    private static final int[] BOX = {2, 0, 2};

    private static void paysByEnd() {
        for (int end = 0; end <= 2; end++) {
            for (int letter = 0; letter <= 2; letter++) {
                for (String sign : new String[] {"+", "-"}) {
                    BoxesWithBeads x = ruled(ENDS[end], 9, "ldw".charAt(letter) + sign + "5", "f1");
                    Due.is("23: the end", x.play(0), end);
                    int change = end != letter ? 0 : sign.equals("+") ? 5 : -5;
                    Due.is("23: end " + end + " by " + letter + sign, x.beads(BOX[end], 0), 9 + change);
                    Due.is("23: SPENT", x.count(2), change < 0 ? 5 : 0);
                    Due.is("23: the BAG", x.count(1), change > 0 ? 9986 : 9991);
                }
            }
        }
        // None at first: nothing is paid though a RULE is told.
        BoxesWithBeads x = even("n1/1", 9, "f1");
        Due.rule(x, "w+5;e7");
        x.play(0);
        Due.is("23: no RULE", x.beads(2, 0), 9);
        // "without: 0".
        x = ruled("n1/1", 9, "e7", "f1");
        x.play(0);
        Due.is("23: no line of w", x.beads(2, 0), 9);
    }

    /** A NUMBER from 0 to 99; "as far as there are". */
    private static void paysByNumber() {
        for (int n : new int[] {0, 1, 2, 7, 8, 9, 10, 11, 98, 99}) {
            BoxesWithBeads x = ruled("n1/1", 9, "w+" + n, "f1");
            x.play(0);
            Due.is("23: w+" + n, x.beads(2, 0), 9 + n);
            Due.is("23: w+" + n + ": the BAG", x.count(1), 9991 - n);
            x = ruled("n1/1", 9, "w-" + n, "f1");
            x.play(0);
            Due.is("23: w-" + n, x.beads(2, 0), Math.max(0, 9 - n));
            Due.is("23: w-" + n + ": SPENT", x.count(2), Math.min(9, n));
            Due.is("23: w-" + n + ": the BAG", x.count(1), 9991);
            Due.is("23: w-" + n + ": opened still", x.count(3), 1);
        }
        // Of the drawn MOVE alone.
        BoxesWithBeads x = ruled("n2/2m", 3, "w-9;l+9", "r0:1");
        x.open(4);
        x.out(4, 1, 3);
        Due.is("23: WON", x.play(0), 2);
        Due.is("23: the drawn one", x.beads(4, 0), 0);
        x.put(4, 1, 2);
        Due.is("23: LOST", x.play(0), 0);
        Due.is("23: the drawn one", x.beads(4, 1), 11);
        Due.is("23: the other one", x.beads(4, 0), 0);
    }

    /** "* behind the NUMBER: so many times (how many of its MOVES in this game were ahead of this one, and 1)". */
    private static void paysTimes() {
        // By ones, ten MOVES of THE CHEST: 20, 18, .. 2 left; LOST.
        String[] rules = {"l+99*", "l+1*", "l-1*", "l-2*", "l+0*", "l+1", "w+9*;l+2*"};
        int[] amount = {99, 1, -1, -2, 0, 1, 2};
        boolean[] times = {true, true, true, true, true, false, true};
        for (int i = 0; i < rules.length; i++) {
            BoxesWithBeads x = ruled("n20/1", 6, rules[i], "r0:1");
            Due.is("23: LOST", x.play(0), 0);
            int in = 0;
            for (int k = 0; k < 10; k++) {
                int want = Math.max(0, 6 + amount[i] * (times[i] ? k + 1 : 1));
                in += want;
                Due.is("23: " + rules[i] + ", ahead of it " + k, x.beads(40 - 4 * k, 0), want);
            }
            Due.is("23: " + rules[i] + ": in BOXES", x.count(0), in);
            Due.is("23: " + rules[i] + ": all", x.count(0) + x.count(1) + x.count(2), 10000);
        }
        // Its own MOVES alone are counted, also as SIDE 1.
        BoxesWithBeads x = ruled("n6/1", 6, "w+10*", "r0:1");
        x.side(1);
        Due.is("23: WON", x.play(0), 2);
        Due.is("23: the first", x.beads(11, 0), 16);
        Due.is("23: the second", x.beads(7, 0), 26);
        Due.is("23: the third", x.beads(3, 0), 36);
    }

    /** "from the BAG, as far as it has"; "the first one first". */
    private static void paysFromTheBag() {
        for (int bag = 0; bag <= 15; bag++) {
            BoxesWithBeads x = even("n5/1", 3, "r0:1");
            Due.rule(x, "w+5");
            x.open(10);
            x.open(6);
            x.open(2);
            for (int left = 9991 - bag; left > 0; left -= 99) {
                x.put(10, 0, Math.min(99, left));
            }
            int had = x.beads(10, 0);
            x.pay(0);
            Due.is("23: WON", x.play(0), 2);
            Due.is("23: the first of " + bag, x.beads(10, 0) - had, Math.min(5, bag));
            Due.is("23: the second of " + bag, x.beads(6, 0) - 3, Math.max(0, Math.min(5, bag - 5)));
            Due.is("23: the third of " + bag, x.beads(2, 0) - 3, Math.max(0, Math.min(5, bag - 10)));
            Due.is("23: the BAG", x.count(1), 0);
        }
    }

    /** "The line told last of each letter counts". */
    private static void linesToldLast() {
        String[] rules = {"w+1;w+2", "w+2;w+1", "w+9*;w+2", "w+2;w+3*", "w-9;w+1", "w+9;w-1", "w+9;w+0", "w+9;w-0*",
            "w+1;d+7;l+8", "l+8;w+1;d+7", "w+1;w+1;w+1;w+1;w+1;w+1;w+1;w+1;w+1;w+4"};
        int[] first = {2, 1, 2, 3, 1, -1, 0, 0, 1, 1, 4};
        int[] second = {2, 1, 2, 6, 1, -1, 0, 0, 1, 1, 4};
        for (int i = 0; i < rules.length; i++) {
            BoxesWithBeads x = ruled("n3/1", 5, rules[i], "r0:1");
            Due.is("23: WON", x.play(0), 2);
            Due.is("23: " + rules[i] + ", the first", x.beads(6, 0), 5 + first[i]);
            Due.is("23: " + rules[i] + ", the second", x.beads(2, 0), 5 + second[i]);
        }
    }

    /** "e and a NUMBER: a BOX that has no beads behind the pay gets so many of each of its MOVES". */
    private static void refillsByNumber() {
        for (int n : new int[] {0, 1, 2, 98, 99}) {
            BoxesWithBeads x = ruled("n3/3", 1, "w-1;l-1;e" + n, "r0:1");
            x.open(6);
            x.out(6, 0, 1);
            x.out(6, 1, 1);
            Due.is("23: WON at once", x.play(0), 2);
            Due.is("23: e" + n, x.beads(6, 0), n);
            Due.is("23: e" + n, x.beads(6, 1), n);
            Due.is("23: e" + n, x.beads(6, 2), n);
            Due.is("23: e" + n + ": the BAG", x.count(1), 9999 - 3 * n);
            // One bead is left: none come.
            x = ruled("n3/3", 2, "w-1;l-1;e" + n, "r0:1");
            x.open(6);
            x.out(6, 0, 2);
            x.out(6, 1, 2);
            x.play(0);
            Due.is("23: one bead is left", x.beads(6, 2), 1);
            Due.is("23: none come", x.beads(6, 0), 0);
            // A bead of another MOVE is left: none come.
            x = ruled("n3/3", 1, "w-1;l-1;e" + n, "r0:1");
            x.open(6);
            x.out(6, 0, 1);
            x.play(0);
            Due.is("23: one bead of another is left", x.count(0) >= 1, true);
            Due.is("23: none come", x.beads(6, 0), 0);
        }
        // "of each of its MOVES (as in FRESH": like ones have none of their own.
        BoxesWithBeads x = ruled("g3x3k1", 1, "w-1;e2", "f1");
        x.open(0);
        x.out(0, 1, 1);
        x.out(0, 4, 1);
        Due.is("23: WON at once", x.play(0), 2);
        Due.is("23: three kinds", x.count(0), 6);
        // BOXES that nobody came to get none.
        x = ruled("n5/1", 1, "w-1;e2", "r0:1");
        x.open(10);
        x.open(2);
        x.out(10, 0, 1);
        x.out(2, 0, 1);
        Due.is("23: RESIGNED at the first", x.play(0), 3);
        Due.is("23: the first gets some", x.beads(10, 0), 2);
        Due.is("23: the last gets none", x.beads(2, 0), 0);
    }

    /** "then e, BOX by BOX in that order, and last the empty one at which it resigned"; "as far as the BAG has". */
    private static void refillsInOrder() {
        for (int bag = 0; bag <= 13; bag++) {
            BoxesWithBeads x = even("n6/2", 1, "r0:1");
            Due.rule(x, "l-1;e2");
            x.pay(0);
            x.open(12);
            x.open(8);
            x.open(4);
            x.open(6);
            x.out(12, 1, 1);
            x.out(8, 1, 1);
            x.out(4, 0, 1);
            x.out(4, 1, 1);
            // One of 6, 4 and 2: nobody comes to 3, where all the others are.
            for (int left = x.count(1) - bag; left > 0; left -= 99) {
                x.put(6, 0, Math.min(99, left));
            }
            Due.is("23: RESIGNS", x.play(0), 3);
            Due.is("23: two are SPENT", x.count(2), 2);
            int[] boxes = {12, 8, 4};
            int come = bag;
            for (int p : boxes) {
                for (int m = 0; m < 2; m++) {
                    Due.is("23: at " + p + ", MOVE " + m + ", of " + bag, x.beads(p, m), Math.min(2, come));
                    come -= Math.min(2, come);
                }
            }
            Due.is("23: the BAG of " + bag, x.count(1), Math.max(0, bag - 12));
        }
    }

    /** "No beads: it RESIGNS (and has LOST)"; "A RESIGNED game is LOST; MOVES that were drawn are paid". */
    private static void resigns() {
        for (String rule : new String[] {"l+5", "w+5", "d+5"}) {
            BoxesWithBeads x = ruled("n4/1", 2, rule, "r0:1");
            x.open(4);
            x.out(4, 0, 2);
            Due.is("23: RESIGNED at the second", x.play(0), 3);
            Due.row("23: two MOVES", x, 0, 0);
            Due.is("23: " + rule + ": the drawn one", x.beads(8, 0), rule.startsWith("l") ? 7 : 2);
            Due.is("23: " + rule + ": nothing was drawn there", x.beads(4, 0), 0);
            Due.is("22: LOST", x.count(9), 1);
            Due.is("22: RESIGNED", x.count(10), 1);
        }
        BoxesWithBeads x = ruled("n4/1", 0, "l+5;e3", "r0:1");
        Due.is("23: RESIGNED at the first", x.play(0), 3);
        Due.is("23: e", x.beads(8, 0), 3);
        Due.is("23: RESIGNED at the second", x.play(0), 3);
        Due.is("23: l", x.beads(8, 0), 8);
        Due.is("23: e", x.beads(4, 0), 3);
        Due.is("23: LOST", x.play(0), 0);
        Due.is("23: l", x.beads(8, 0), 13);
        Due.is("23: l", x.beads(4, 0), 8);
    }

    // 24: "n GAMES PLAYED (0 .. 200): how many were WON; the ROW: DRAWN, LOST, of these RESIGNED. NONE: others."

    private static void runsRefused() {
        for (int foe : NO_FOES) {
            Whole.stays("24: run(" + foe + ", 1) of 3", x -> x.run(foe, 1), -1);
            Whole.stays("24: run(" + foe + ", 0) of 3", x -> x.run(foe, 0), -1);
        }
        for (int n : new int[] {-1, -2, 201, 202, Integer.MIN_VALUE, Integer.MAX_VALUE}) {
            Whole.stays("24: run(0, " + n + ")", x -> x.run(0, n), -1);
        }
        Whole.rowAlone("24: no game", Whole::heap, x -> x.run(0, 0), 0, 0, 0, 0);
        Whole.rowAlone("24: no game", Whole::board, x -> x.run(2, 0), 0, 0, 0, 0);
    }

    private static void runsByNumber() {
        for (int n : new int[] {1, 2, 199, 200}) {
            BoxesWithBeads x = Whole.heap();
            BoxesWithBeads y = Whole.heap();
            long[] of = new long[4];
            for (int i = 0; i < n; i++) {
                of[y.play(1)]++;
            }
            Due.is("24: " + n + " as one by one", x.run(1, n), of[2]);
            Due.row("24: " + n + " as one by one", x, of[1], of[0] + of[3], of[3]);
            Due.same("24: " + n + " as one by one", Whole.butRow(x), Whole.butRow(y));
        }
        // All of one kind.
        String[] games = {"n1/1", "n1/1m", "g1x1k3"};
        for (int i = 0; i < games.length; i++) {
            BoxesWithBeads x = even(games[i], 1, "f1");
            Due.is("24: " + games[i], x.run(0, 200), i == 0 ? 200 : 0);
            Due.row("24: " + games[i], x, i == 2 ? 200 : 0, i == 1 ? 200 : 0, 0);
            x.out(games[i].startsWith("n") ? 2 : 0, 0, 1);
            Due.is("24: " + games[i], x.run(0, 200), 0);
            Due.row("24: " + games[i], x, 0, 200, 200);
        }
    }

    // 25: "GAMES PLAYED till ODDS of LOST are 0 against the FOE (asked ahead of each one, too), n (0 .. 100) at most:
    // how many. -2: they are not 0 behind the last one; NONE: others."

    private static void comesRefused() {
        for (int foe : NO_FOES) {
            Whole.stays("25: come(" + foe + ", 1) of 3", x -> x.come(foe, 1), -1);
            Whole.stays("25: come(" + foe + ", 0) of 3", x -> x.come(foe, 0), -1);
        }
        for (int n : new int[] {-1, -2, 101, 102, Integer.MIN_VALUE, Integer.MAX_VALUE}) {
            Whole.stays("25: come(0, " + n + ")", x -> x.come(0, n), -1);
        }
    }

    private static void comesAsked() {
        // LOST at once: -2 behind 0, 1 and 100 GAMES.
        for (int n : new int[] {0, 1, 99, 100}) {
            BoxesWithBeads x = even("n1/1m", 1, "f1");
            Due.is("25: never, " + n, x.come(0, n), -2);
            Due.is("25: all of them were PLAYED", x.count(6), n);
            x = even("n1/1", 1, "f1");
            Due.is("25: at once, " + n, x.come(0, n), 0);
            Due.is("25: none was PLAYED", x.count(6), 0);
            Due.is("25: nothing is opened", x.count(3), 0);
            // DRAWN is not LOST.
            x = even("g1x1k3", 1, "f1");
            Due.is("25: at once, " + n, x.come(0, n), 0);
        }
        Whole.stays("25: at once", () -> {
            BoxesWithBeads x = Whole.heap();
            Due.game(x, "n9/3");
            x.open(18);
            x.out(18, 1, 1);
            x.out(18, 2, 1);
            // One of 9, and whatever is then taken of 8 THE CHEST takes what is over by 4.
            for (int left = 1; left <= 7; left++) {
                x.open(2 * left);
                for (int m = 0; m < Math.min(3, left); m++) {
                    int n = x.beads(2 * left, m);
                    if (n > 0 && left % 4 != m + 1) {
                        x.out(2 * left, m, n);
                    }
                }
            }
            return x;
        }, x -> x.come(0, 100), 0);
    }

    /** n is enough, and one less is not. */
    private static void comesByNumber() {
        // Each LOST game spends a bead of two of 2; as it has none, one of 2 alone is drawn: WON by m of the last one.
        Supplier<BoxesWithBeads> made = () -> {
            BoxesWithBeads x = ruled("n2/2m", 9, "l-1", "r0:1");
            x.open(4);
            x.out(4, 0, 8);
            return x;
        };
        BoxesWithBeads y = made.get();
        int games = 0;
        while (y.beads(4, 1) > 0) {
            y.play(0);
            games++;
        }
        Due.is("25: nine of them were LOST", y.count(9), 9);
        for (int n : new int[] {0, 1, games - 1, games, games + 1, 100}) {
            BoxesWithBeads x = made.get();
            Due.is("25: " + n + " at most, " + games + " are due", x.come(0, n), n < games ? -2 : games);
            Due.is("25: so many were PLAYED", x.count(6), Math.min(n, games));
            Due.is("25: no ROW", x.count(16), 0);
        }
        // As playing one by one.
        BoxesWithBeads x = made.get();
        Due.is("25: as one by one", x.come(0, 100), games);
        List<Long> got = new ArrayList<>();
        List<Long> want = new ArrayList<>();
        for (int what = 0; what <= 15; what++) {
            got.add((long) x.count(what));
            want.add((long) y.count(what));
        }
        got.add(Whole.random(x));
        want.add(Whole.random(y));
        Due.same("25: as one by one", got, want);
        Due.is("26: LOST by none", x.odds(0), 0);
        Due.row("26: LOST by none", x, ALL, 0, 0);
    }
}
