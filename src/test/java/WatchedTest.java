import java.util.List;

/** Promises 36 to 39: watch, fits, part, row. */
public final class WatchedTest {
    public static void main(String[] args) {
        watches();
        fits();
        fitsByTimes();
        parts();
        partsOfEqual();
        rows();
        Due.close("WatchedTest");
    }

    private static BoxesWithBeads ruled(String... rules) {
        BoxesWithBeads x = new BoxesWithBeads();
        for (int i = 0; i < rules.length; i++) {
            Due.is("rule " + rules[i], Due.rule(x, rules[i]), i);
        }
        return x;
    }

    private static void watches() {
        BoxesWithBeads x = ruled("w+1");
        int[][] wrong = {{-1, 0, 0, 0}, {3, 0, 0, 0}, {0, -1, 0, 0}, {0, 10, 0, 0}, {0, 0, -1, 0}, {0, 0, 100, 0},
            {0, 0, 0, -1}, {0, 0, 0, 1000}, {Integer.MIN_VALUE, 0, 0, 0}, {0, 0, Integer.MAX_VALUE, 0}};
        for (int[] w : wrong) {
            Due.is("36: refused", x.watch(w[0], w[1], w[2], w[3]), -1);
        }
        Due.is("36: none was watched", x.fits(), 1);
        Due.is("36: the least", x.watch(0, 0, 0, 0), 1);
        Due.is("36: the greatest", x.watch(2, 9, 99, 999), 2);
        Due.is("36: fits no rule", x.fits(), 0);
        for (int i = 3; i <= 12; i++) {
            Due.is("36: number " + i, x.watch(1, 0, 5, 5), i);
        }
        Due.is("36: a thirteenth", x.watch(1, 0, 5, 5), -1);
        Due.is("36: a thirteenth, a wrong one", x.watch(3, 0, 5, 5), -1);
        Due.is("36: no row", x.count(16), 0);

        x = ruled("w+1", "w+2");
        for (int i = 1; i <= 12; i++) {
            x.watch(2, 0, i, i + 1);
        }
        Due.is("36: twelve fit", x.fits(), 1);
        Due.is("36: refused", x.watch(2, 0, 1, 3), -1);
        Due.is("36: and does not count", x.fits(), 1);
        Due.is("36: a game empties nothing here", Due.game(x, "n1/1"), 0);
        Due.is("36: watched still", x.watch(2, 0, 1, 2), -1);
    }

    private static void fits() {
        Due.is("37: no rules", new BoxesWithBeads().fits(), 0);
        BoxesWithBeads x = ruled("w+3;d+1;l-1", "w+3;l-2", "d-4", "e5", "w+1;w+3;l-1;l-2", "l+2;w+3;e9");
        Due.is("37: nothing watched: all", x.fits(), 63);
        x.watch(2, 5, 10, 13);
        Due.is("37: w+3", x.fits(), 1 + 2 + 16 + 32);
        x.watch(0, 0, 1, 0);
        Due.is("37: no less than none", x.fits(), 1 + 2 + 16);
        x.watch(0, 3, 2, 0);
        Due.is("37: the last line counts", x.fits(), 2 + 16);
        x.watch(1, 0, 7, 7);
        Due.is("37: no line: 0", x.fits(), 2 + 16);
        Due.is("37: a rule told later", Due.rule(x, "w+3;l-99;e1"), 6);
        Due.is("37: fits too", x.fits(), 2 + 16 + 64);
        Due.is("37: and the eighth", Due.rule(x, "w+3;l-9"), 7);
        Due.is("37: fits too", x.fits(), 2 + 16 + 64 + 128);
        x.watch(1, 0, 7, 8);
        Due.is("37: none", x.fits(), 0);
        Due.is("37: no row", x.count(16), 0);

        x = ruled("e5", "l-1", "w+99");
        x.watch(0, 0, 0, 0);
        Due.is("37: e does not matter", x.fits(), 7);
        x.watch(2, 9, 99, 198);
        Due.is("37: 99 more", x.fits(), 4);
    }

    private static void fitsByTimes() {
        BoxesWithBeads x = ruled("w+3", "w+3*", "l-2*", "w+1*;l-2");
        x.watch(2, 0, 50, 53);
        Due.is("37: alike ahead of none", x.fits(), 3);
        x.watch(2, 1, 50, 56);
        Due.is("37: twice", x.fits(), 2);
        x.watch(2, 9, 50, 80);
        Due.is("37: ten times", x.fits(), 2);
        x = ruled("w+3", "w+3*", "l-2*", "w+1*;l-2");
        x.watch(0, 2, 9, 3);
        Due.is("37: three times less", x.fits(), 4);
        x = ruled("w+99*");
        x.watch(2, 9, 9, 999);
        Due.is("37: 999", x.fits(), 1);
    }

    private static void parts() {
        BoxesWithBeads x = new BoxesWithBeads();
        x.value(0);
        Due.is("38: no rules", x.part(), 0);
        Due.row("38: the row stays", x, 0, 1, 2, 3, 4, 5, 6, 7, 8);
        x = ruled("w+3;d+1;l-1", "w+3*", "w+3;l-2", "e5");
        // LOST: 49 50 48 50; DRAWN: 51 50 50 50; WON: 53 53 53 50, then 53 56 53 50.
        Due.is("38: LOST", x.part(), 3);
        Due.row("38: LOST", x, 0, 0);
        x.watch(0, 0, 5, 5);
        // "w+3*" and "e5": WON.
        Due.is("38: WON", x.part(), 2);
        Due.row("38: WON", x, 2, 0);
        x.watch(2, 0, 5, 8);
        Due.is("38: one alone", x.part(), 1);
        Due.row("38: one alone", x, 0, 0);
        x.watch(2, 0, 5, 9);
        x.value(0);
        Due.is("38: none", x.part(), 0);
        Due.row("38: the row stays", x, 0, 1, 2, 3, 4, 5, 6, 7, 8);
    }

    private static void partsOfEqual() {
        BoxesWithBeads x = ruled("w+6", "w+3*", "w+2*");
        // Ahead none: 56 53 52: three at once; ahead one: 56 56 54; ahead two: 56 59 56.
        Due.is("38: the fewest ahead", x.part(), 3);
        Due.row("38: the fewest ahead", x, 2, 0);
        x = ruled("w+3", "w+3*");
        Due.is("38: ahead of one", x.part(), 2);
        Due.row("38: ahead of one", x, 2, 1);
        x = ruled("w+3;d-1", "w+3*", "l+1;d-1");
        // LOST: 50 50 51; DRAWN: 49 50 49; WON: 53 53 50, ahead of one 53 56 50.
        Due.is("38: three", x.part(), 3);
        Due.row("38: three", x, 2, 1);
        x = ruled("d+1", "l+1");
        Due.is("38: the first end", x.part(), 2);
        Due.row("38: the first end", x, 0, 0);
        x = ruled("d-50", "d-60", "d-9*");
        // None is left by 50 and by 60; 9 times 6 is 54.
        Due.is("38: no less than none", x.part(), 2);
        Due.row("38: no less than none", x, 1, 0);
        x = ruled("l-5*", "l-10");
        x.watch(0, 1, 20, 10);
        Due.is("38: alike ahead of one", x.part(), 2);
        Due.row("38: ahead of none", x, 0, 0);
        // Two of them leave the same up to 8 ahead: 1 and 2 times 1 to 9 meet one of the others.
        x = ruled("w+1*", "w+2*", "w+2", "w+5", "w+6", "w+7", "w+8", "w+9");
        Due.is("38: nine ahead", x.part(), 8);
        Due.row("38: nine ahead", x, 2, 9);
        // Here 7 and 14 meet none of the others first, and ten ahead are not asked.
        x = ruled("w+1*", "w+2*", "w+2", "w+5", "w+6", "w+8", "w+9", "w+10");
        Due.is("38: six ahead", x.part(), 8);
        Due.row("38: six ahead", x, 2, 6);
        x = ruled("w+1", "w+2", "w+3", "w+4", "w+5", "w+6", "w+7", "w+8");
        Due.is("38: eight", x.part(), 8);
        Due.row("38: eight", x, 2, 0);
    }

    private static void rows() {
        BoxesWithBeads x = new BoxesWithBeads();
        Due.is("39: none at first", Due.rowThrows(x, 0), true);
        Due.is("39: below 0", Due.rowThrows(x, -1), true);
        x.value(1);
        Due.is("39: the first", x.row(0), 4);
        Due.is("39: no second", Due.rowThrows(x, 1), true);
        Due.is("39: below 0", Due.rowThrows(x, -1), true);
        Due.is("39: least", Due.rowThrows(x, Integer.MIN_VALUE), true);
        Due.is("39: greatest", Due.rowThrows(x, Integer.MAX_VALUE), true);
        x.value(0);
        Due.is("39: the ninth", x.row(8), 8);
        Due.is("39: no tenth", Due.rowThrows(x, 9), true);
        List<Long> before = Due.rowOf(x);
        x.like(0);
        x.state(0);
        x.boxes();
        x.open(0);
        x.seed(1);
        x.keep(0);
        x.fits();
        x.share(0);
        x.errs(0);
        x.likeness(true);
        x.side(1);
        Due.same("39: other calls leave it", Due.rowOf(x), before);
        Due.is("39: a game too", Due.game(x, "n20/1"), 0);
        Due.same("39: a game too", Due.rowOf(x), before);
        Due.foe(x, "f1");
        x.play(0);
        Due.is("39: the longest game", x.count(16), 20);
        Due.is("39: its last", x.row(19), 0);
        Due.is("39: no more", Due.rowThrows(x, 20), true);
        x.knows();
        Due.is("39: a shorter one", x.count(16), 2);
        Due.is("39: nothing of the longer one", Due.rowThrows(x, 2), true);
    }
}
