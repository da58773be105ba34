import java.util.List;

/** Promises 31 and 32: teach and few. */
public final class TeachingTest {
    private static final long ALL = 1000000000L;

    public static void main(String[] args) {
        teachOfOne();
        teachOfEqual();
        teachIsPlaying();
        teachOfThree();
        teachRefused();
        few();
        fewEmptiesFirst();
        fewRefused();
        Due.close("TeachingTest");
    }

    private static BoxesWithBeads taught(int each, String rule, String... foes) {
        BoxesWithBeads x = Due.with("n6/2", foes);
        x.sheet(2, 21, each, 0);
        Due.is("a rule", Due.rule(x, rule), 0);
        x.pay(0);
        return x;
    }

    private static void teachOfOne() {
        BoxesWithBeads x = Due.with("g1x1k3", "f1", "m1");
        Due.is("31: one, DRAWN", x.teach(2, 5, 0), 1);
        Due.row("31: DRAWN counts once", x, 1, ALL);
        x = Due.with("n1/1", "f1", "m1");
        Due.is("31: one, WON", x.teach(1, 0, 1), 1);
        Due.row("31: WON counts twice", x, 0, 2 * ALL);
        Due.is("31: two alike", x.teach(3, 50, 0), 2);
        Due.row("31: of equal ones the first", x, 0, 1, 2 * ALL);
        Due.is("31: nothing played", x.count(6), 0);
        x = Due.with("n1/1m", "f1");
        Due.is("31: never", x.teach(1, 3, 0), 1);
        Due.row("31: LOST", x, 0, 0);
    }

    private static void teachOfEqual() {
        BoxesWithBeads x = Due.with("n1/1", "f1", "m1", "t1", "f2");
        Due.is("31: three alike", x.teach(14, 2, 0), 3);
        Due.row("31: of equal ones the first by numbers", x, 1, 2, 3, 2 * ALL);
        // Teaching makes it worse here, yet all orders are of teaching.
        BoxesWithBeads y = Due.with("n2/2", "f1", "m1");
        Due.rule(y, "w-9");
        y.pay(0);
        y.seed(7);
        y.odds(0);
        Due.is("31: WON by half ahead of it", y.row(0), ALL / 2);
        Due.is("31: one foe", y.teach(2, 50, 0), 1);
        Due.row("31: it is worse", y, 1, 0);
        Due.is("31: two foes", y.teach(3, 50, 0), 2);
        Due.row("31: it is worse", y, 0, 1, 0);
    }

    /** What each order leads to, told by playing it on an object of its own. */
    private static long byPlaying(int n, int test, int... order) {
        return byPlayingFrom(99, n, test, order);
    }

    private static long byPlayingFrom(int seed, int n, int test, int... order) {
        BoxesWithBeads x = taught(3, "w+2;l-1", "f1", "m1;f2", "r1:1");
        x.seed(seed);
        for (int foe : order) {
            for (int i = 0; i < n; i++) {
                x.play(foe);
            }
        }
        x.odds(test);
        return 2 * x.row(0) + x.row(1);
    }

    private static void teachIsPlaying() {
        BoxesWithBeads x = taught(3, "w+2;l-1", "f1", "m1;f2", "r1:1");
        x.seed(99);
        List<Long> before = Due.picture(x, 2, 2, 4, 6, 8, 12);
        for (int n = 0; n <= 50; n += 7) {
            for (int test = 0; test < 3; test++) {
                long one = byPlaying(n, test, 0, 2);
                long two = byPlaying(n, test, 2, 0);
                Due.is("31: two foes", x.teach(5, n, test), 2);
                if (one >= two) {
                    Due.row("31: 0 first, " + n, x, 0, 2, one);
                } else {
                    Due.row("31: 2 first, " + n, x, 2, 0, two);
                }
            }
        }
        x.value(-1);
        Due.is("31: R stays", x.seed(99), 99);
        BoxesWithBeads y = taught(3, "w+2;l-1", "f1", "m1;f2", "r1:1");
        y.seed(99);
        y.teach(5, 0, 0);
        x.teach(5, 0, 0);
        Due.same("31: nothing changes", Due.picture(x, 2, 2, 4, 6, 8, 12), Due.picture(y, 2, 2, 4, 6, 8, 12));
        Due.is("31: the ROW alone is new", before.size() < Due.picture(x, 2, 2, 4, 6, 8, 12).size(), true);
    }

    private static void teachOfThree() {
        int[][] orders = {{0, 1, 2}, {0, 2, 1}, {1, 0, 2}, {1, 2, 0}, {2, 0, 1}, {2, 1, 0}};
        boolean[] seen = new boolean[orders.length];
        BoxesWithBeads x = taught(3, "w+2;l-1", "f1", "m1;f2", "r1:1");
        for (int seed = 1; seed <= 40; seed++) {
            int n = 1 + seed % 7;
            long most = -1;
            int best = 0;
            for (int i = 0; i < orders.length; i++) {
                long behind = byPlayingFrom(seed, n, 1, orders[i]);
                if (behind > most) {
                    most = behind;
                    best = i;
                }
            }
            seen[best] = true;
            int[] order = orders[best];
            x.seed(seed);
            Due.is("31: three foes", x.teach(7, n, 1), 3);
            Due.row("31: three foes, " + n, x, order[0], order[1], order[2], most);
        }
        for (int i = 0; i < orders.length; i++) {
            Due.is("31: order " + i + " is best somewhere", seen[i], true);
        }
    }

    private static void teachRefused() {
        BoxesWithBeads x = taught(3, "w+1", "f1", "f2", "f3", "f4");
        x.value(12);
        List<Long> before = Due.picture(x, 2, 2, 4, 6, 8, 12);
        int[][] wrong = {{0, 1, 0}, {-1, 1, 0}, {16, 1, 0}, {17, 1, 0}, {15, 1, 0}, {1, -1, 0}, {1, 51, 0}, {1, 1, -1},
            {1, 1, 4}, {Integer.MIN_VALUE, 1, 0}, {1 << 30, 1, 0}};
        for (int[] w : wrong) {
            Due.is("31: teach(" + w[0] + ", " + w[1] + ", " + w[2] + ")", x.teach(w[0], w[1], w[2]), -1);
        }
        Due.same("31: nothing changes", Due.picture(x, 2, 2, 4, 6, 8, 12), before);
        Due.is("31: three of four", x.teach(14, 50, 3), 3);
        Due.is("31: the numbers", x.row(0), 1);
        Due.is("31: none at all", new BoxesWithBeads().teach(1, 1, 0), -1);
        BoxesWithBeads y = Due.with("n1/1", "f1", "f1", "f1", "f1", "f1", "f1", "f1", "f1");
        Due.is("31: the eighth", y.teach(128, 1, 7), 1);
        Due.row("31: the eighth", y, 7, 2 * ALL);
        Due.is("31: a ninth", y.teach(256, 1, 7), -1);
    }

    private static void few() {
        // LOST each time: n GAMES need n beads of the one MOVE at one bead each.
        BoxesWithBeads x = Due.with("n1/1m", "f1");
        Due.is("32: nothing is paid", x.few(0, 50), 1);
        Due.rule(x, "l-1");
        Due.rule(x, "l-5");
        Due.rule(x, "l-1;e1");
        x.pay(0);
        for (int n = 1; n <= 20; n++) {
            Due.is("32: " + n + " games", x.few(0, n), n);
        }
        Due.is("32: 21 games", x.few(0, 21), -2);
        Due.is("32: 50 games", x.few(0, 50), -2);
        x.pay(1);
        Due.is("32: one game", x.few(0, 1), 1);
        Due.is("32: two games", x.few(0, 2), 6);
        Due.is("32: four games", x.few(0, 4), 16);
        Due.is("32: five games", x.few(0, 5), -2);
        x.pay(2);
        Due.is("32: refilled", x.few(0, 50), 1);
        BoxesWithBeads y = Due.with("n20/1", "f1");
        y.side(1);
        y.sheet(3, 0, 0, 0);
        Due.is("32: the same for all s, up to 19", y.few(0, 3), 1);
        Due.is("32: no row", x.count(16), 0);
        Due.is("32: nothing played", x.count(6), 0);
        Due.is("32: nothing opened", x.count(3), 0);
        Due.is("32: nothing SPENT", x.count(2), 0);
        Due.is("32: R stays", x.seed(1), 1);
        Due.is("32: FRESH stays", x.fresh(0, 4), 4);
    }

    private static void fewEmptiesFirst() {
        BoxesWithBeads x = Due.with("n1/1m", "f1");
        Due.rule(x, "l-1");
        x.pay(0);
        x.open(2);
        x.put(2, 0, 99);
        Due.is("32: opened BOXES don't help", x.few(0, 7), 7);
        Due.is("32: they stay", x.beads(2, 0), 103);
        x.run(0, 50);
        Due.is("32: SPENT ones stay SPENT", x.few(0, 3), 3);
        Due.is("32: SPENT", x.count(2), 50);
        for (int i = 0; i < 100; i++) {
            x.put(2, 0, 99);
        }
        Due.is("32: from the BAG with all", x.few(0, 9), 9);

        // Each number of beads is tried from the R of now, as playing tells.
        BoxesWithBeads y = taught(4, "l-1;w+1", "m1;f1");
        for (int seed = 1; seed <= 12; seed++) {
            y.seed(seed);
            int fewest = y.few(0, 9);
            for (int v = 1; v <= (fewest < 0 ? 20 : fewest); v++) {
                BoxesWithBeads z = taught(v, "l-1;w+1", "m1;f1");
                z.seed(seed);
                z.run(0, 9);
                Due.is("32: RESIGNS with " + v, z.row(2) > 0, v != fewest);
            }
        }
    }

    private static void fewRefused() {
        BoxesWithBeads x = taught(3, "w+1", "f1");
        x.value(12);
        List<Long> before = Due.picture(x, 2, 2, 4, 6, 8, 12);
        Due.is("32: none such", x.few(-1, 1), -1);
        Due.is("32: none such", x.few(1, 1), -1);
        Due.is("32: no game", x.few(0, 0), -1);
        Due.is("32: below 0", x.few(0, -1), -1);
        Due.is("32: 51", x.few(0, 51), -1);
        Due.is("32: 50 may be", x.few(0, 50) >= 1, true);
        Due.same("32: nothing changes", Due.picture(x, 2, 2, 4, 6, 8, 12), before);
    }
}
