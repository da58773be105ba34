import java.util.function.Supplier;

/** The edges that promises 36 to 39 name, each by itself. */
public final class EdgesOfWatchedTest {
    public static void main(String[] args) {
        watchesRefused();
        watchesAtEdges();
        watchesTwelve();
        watchesStay();
        fitsNone();
        fitsEach();
        fitsAtNone();
        fitsByTimes();
        fitsLastLines();
        partsOfNone();
        partsAtEdges();
        partsFewestFirst();
        partsChangeTheRow();
        rowsAtEdges();
        rowsOfEach();
        rowsThrowOnly();
        Due.close("EdgesOfWatchedTest");
    }

    private static BoxesWithBeads ruled(String... rules) {
        BoxesWithBeads x = new BoxesWithBeads();
        for (int i = 0; i < rules.length; i++) {
            Due.is("rule " + rules[i], Due.rule(x, rules[i]), i);
        }
        return x;
    }

    // 36: "What was WATCHED (at most 12): in a game that ended so (2 WON, 1 DRAWN, 0 LOST) a BOX had so many beads ..
    // ahead of the pay (0 .. 99), and so many (0 .. 999) behind; ahead MOVES of its (0 .. 9) were ahead of this one: how
    // many. Refused: others."

    private static void watchesRefused() {
        for (int far : new int[] {-1, -2, Integer.MIN_VALUE, Integer.MAX_VALUE, 1000, 1001}) {
            Whole.stays("36: end " + far, x -> x.watch(far, 0, 4, 7), -1);
            Whole.stays("36: ahead " + far, x -> x.watch(2, far, 4, 7), -1);
            Whole.stays("36: before " + far, x -> x.watch(2, 0, far, 7), -1);
            Whole.stays("36: behind " + far, x -> x.watch(2, 0, 4, far), -1);
        }
        Whole.stays("36: end 3", x -> x.watch(3, 0, 4, 7), -1);
        Whole.stays("36: ahead 10", x -> x.watch(2, 10, 4, 7), -1);
        Whole.stays("36: before 100", x -> x.watch(2, 0, 100, 7), -1);
    }

    private static void watchesAtEdges() {
        int[][] good = {{0, 0, 0, 0}, {2, 0, 0, 0}, {0, 9, 0, 0}, {0, 0, 99, 0}, {0, 0, 0, 999}, {2, 9, 99, 999},
            {1, 8, 98, 998}};
        for (int[] w : good) {
            BoxesWithBeads x = new BoxesWithBeads();
            Due.is("36: " + w[0] + " " + w[1] + " " + w[2] + " " + w[3], x.watch(w[0], w[1], w[2], w[3]), 1);
        }
    }

    private static void watchesTwelve() {
        BoxesWithBeads x = ruled("w+1", "w+2");
        for (int i = 1; i <= 12; i++) {
            Due.is("36: number " + i, x.watch(2, 0, i, i + 1), i);
        }
        Due.is("36: all twelve fit", x.fits(), 1);
        Supplier<BoxesWithBeads> full = () -> {
            BoxesWithBeads y = Whole.heap();
            for (int i = 2; i <= 12; i++) {
                Due.is("36: number " + i, y.watch(2, 0, 4, 7), i);
            }
            return y;
        };
        Whole.stays("36: a thirteenth that would fit", full, y -> y.watch(2, 0, 4, 7), -1);
        Whole.stays("36: a thirteenth that would not", full, y -> y.watch(2, 0, 4, 9), -1);
        Whole.stays("36: a thirteenth that is none", full, y -> y.watch(3, 0, 4, 7), -1);
        // The twelfth counts.
        x = ruled("w+1", "w+2");
        for (int i = 1; i <= 11; i++) {
            x.watch(2, 0, i, i + 1);
        }
        x.watch(2, 0, 5, 7);
        Due.is("36: the twelfth does not fit", x.fits(), 0);
        // So does the first.
        x = ruled("w+1", "w+2");
        x.watch(2, 0, 5, 7);
        for (int i = 1; i <= 11; i++) {
            x.watch(2, 0, i, i + 1);
        }
        Due.is("36: the first does not fit", x.fits(), 0);
    }

    /** Nothing makes it forget. */
    private static void watchesStay() {
        BoxesWithBeads x = Whole.heap();
        Due.game(x, "n3/1");
        x.side(1);
        x.likeness(false);
        x.again(1);
        Due.is("37: fits", x.fits(), 3);
        Due.is("36: the second", x.watch(0, 0, 0, 0), 2);
        Whole.becomes("36: it changes what was WATCHED alone", Whole::heap, y -> y.watch(2, 0, 9, 12), 2,
                y -> y.watch(2, 0, 0, 3));
    }

    // 37: "RULES (bits) that fit all that was WATCHED (e does not matter)."

    private static void fitsNone() {
        BoxesWithBeads x = new BoxesWithBeads();
        Due.is("37: no RULES", x.fits(), 0);
        x.watch(0, 0, 0, 0);
        Due.is("37: no RULES", x.fits(), 0);
        for (int i = 0; i < 8; i++) {
            Due.rule(x, "e" + i);
            Due.is("37: all of " + (i + 1), x.fits(), (1 << i + 1) - 1);
        }
        Whole.quiet("37: fits", Whole::heap, y -> y.fits());
    }

    /** Each of eight by itself. */
    private static void fitsEach() {
        for (int i = 0; i < 8; i++) {
            BoxesWithBeads x = ruled("d+0", "d+1", "d+2", "d+3", "d+4", "d+5", "d+98", "d+99");
            int n = i < 6 ? i : 92 + i;
            Due.is("37: nothing WATCHED", x.fits(), 255);
            x.watch(1, 0, 7, 7 + n);
            Due.is("37: d+" + n, x.fits(), 1 << i);
            x.watch(2, 0, 7, 7);
            Due.is("37: w is 0 in all", x.fits(), 1 << i);
            x.watch(0, 0, 7, 8);
            Due.is("37: none", x.fits(), 0);
        }
    }

    /** "as far as there are": no less than none. */
    private static void fitsAtNone() {
        for (int before : new int[] {0, 1, 4, 5, 6, 99}) {
            BoxesWithBeads x = ruled("l-5", "l-99", "l+0", "l-0");
            int want = 0;
            for (int i = 0; i < 4; i++) {
                want |= Math.max(0, before - new int[] {5, 99, 0, 0}[i]) == 0 ? 1 << i : 0;
            }
            x.watch(0, 0, before, 0);
            Due.is("37: " + before + " and none", x.fits(), want);
        }
        BoxesWithBeads x = ruled("l-5", "l-99", "l-98");
        x.watch(0, 0, 99, 1);
        Due.is("37: one is left", x.fits(), 4);
        // e would fill it: it does not matter.
        x = ruled("l-5;e3", "l-5", "e3");
        x.watch(0, 0, 5, 0);
        Due.is("37: e does not matter", x.fits(), 3);
        x = ruled("l-5;e3", "l-5", "e3");
        x.watch(0, 0, 5, 3);
        Due.is("37: e does not matter", x.fits(), 0);
    }

    private static void fitsByTimes() {
        for (int ahead = 0; ahead <= 9; ahead++) {
            BoxesWithBeads x = ruled("w+3*", "w+3", "w-3*", "w-3");
            x.watch(2, ahead, 40, 40 + 3 * (ahead + 1));
            Due.is("37: ahead " + ahead, x.fits(), ahead == 0 ? 3 : 1);
            x = ruled("w+3*", "w+3", "w-3*", "w-3");
            x.watch(2, ahead, 40, 40 - 3 * (ahead + 1));
            Due.is("37: ahead " + ahead, x.fits(), ahead == 0 ? 12 : 4);
            x = ruled("w+3*", "w+3", "w-3*", "w-3");
            x.watch(2, ahead, 40, 43);
            Due.is("37: ahead " + ahead, x.fits(), ahead == 0 ? 3 : 2);
        }
        // The most: 99 times ten and 99 are above 999.
        BoxesWithBeads x = ruled("w+99*", "w+90*");
        x.watch(2, 9, 99, 999);
        Due.is("37: 99 and 900", x.fits(), 2);
        x = ruled("w+99*", "w+90*");
        x.watch(2, 9, 9, 999);
        Due.is("37: 9 and 990", x.fits(), 1);
        x = ruled("w-99*", "w+0*");
        x.watch(2, 9, 99, 0);
        Due.is("37: no less than none", x.fits(), 1);
    }

    private static void fitsLastLines() {
        BoxesWithBeads x = ruled("w+1;w+2", "w+2;w+1", "w+2*;w+2", "w+2;w+2*");
        x.watch(2, 1, 10, 12);
        Due.is("37: the line told last", x.fits(), 5);
        x = ruled("w+1;w+2", "w+2;w+1", "w+2*;w+2", "w+2;w+2*");
        x.watch(2, 1, 10, 14);
        Due.is("37: the line told last", x.fits(), 8);
    }

    // 38: "The end (0 .. 2) and how many ahead (0 .. 9), with 50 beads, at which RULES that fit would leave the most
    // unlike numbers: how many; the ROW: the end, how many ahead (of equal ones the first end, then the fewest). 0: no
    // RULE fits."

    private static void partsOfNone() {
        Whole.stays("38: no RULES", () -> {
            BoxesWithBeads x = Due.with("n9/3", "f1");
            x.value(18);
            Due.text(x, "f2");
            return x;
        }, x -> x.part(), 0);
        Whole.stays("38: no RULE fits", () -> {
            BoxesWithBeads x = Whole.heap();
            x.watch(2, 0, 4, 8);
            return x;
        }, x -> x.part(), 0);
    }

    private static void part(String what, BoxesWithBeads x, int want, int end, int ahead) {
        Due.is("38: " + what, x.part(), want);
        Due.row("38: " + what, x, end, ahead);
    }

    private static void partsAtEdges() {
        part("one RULE", ruled("w+1"), 1, 0, 0);
        part("two alike", ruled("w+1", "w+1;e9"), 1, 0, 0);
        part("LOST", ruled("l+1", "l+2"), 2, 0, 0);
        part("DRAWN", ruled("d+1", "d+2"), 2, 1, 0);
        part("WON", ruled("w+1", "w+2"), 2, 2, 0);
        part("eight", ruled("w+1", "w+2", "w+3", "w+4", "w+5", "w+6", "w+7", "w+8"), 8, 2, 0);
        // With 50 beads: 49 less leave one, 50 and more none.
        part("49 and 50", ruled("l-49", "l-50"), 2, 0, 0);
        part("50 and 51", ruled("l-50", "l-51"), 1, 0, 0);
        part("50 and 99", ruled("l-50", "l-99", "d+1"), 2, 0, 0);
        // 5 times ten is 50: nine ahead, and no less.
        part("at nine ahead alike", ruled("w-5*", "w-50"), 2, 2, 0);
        part("unlike at nine ahead alone", ruled("w-6*;d+1", "w-7*;d+1"), 2, 2, 0);
    }

    private static void partsFewestFirst() {
        // Alike ahead of none, unlike from one on.
        part("one ahead", ruled("w+3", "w+3*"), 2, 2, 1);
        part("the first end of those", ruled("w+3;d+3;l+3", "w+3*;d+3*;l+3*"), 2, 0, 1);
        part("the first end, though later ahead", ruled("w+3;l+3", "w+4;l+3*"), 2, 0, 1);
        part("more at another end", ruled("l+1;w+1", "l+2;w+2", "l+2;w+3"), 3, 2, 0);
        // 2 4 2, then 4 4 2, then 6 4 2.
        part("two ahead", ruled("w+2*", "w+4", "w+1*;w+2"), 3, 2, 2);
        part("three of them", ruled("w+6", "w+6*", "w+12"), 3, 2, 2);
        // Nine ahead alone: each of the others is met by k or 2k on the way.
        part("nine ahead", ruled("w+1*", "w+2*", "w+2", "w+5", "w+6", "w+7", "w+8", "w+9"), 8, 2, 9);
        // Here it would be ten ahead, which are not asked: 7 at most, of none ahead first.
        part("not ten ahead", ruled("w+1*", "w+2*", "w+2", "w+6", "w+7", "w+8", "w+9", "w+10"), 7, 2, 0);
    }

    private static void partsChangeTheRow() {
        // Two of its three RULES fit: LOST both take one, DRAWN one of them alone pays.
        Whole.rowAlone("38: part", Whole::heap, x -> x.part(), 2, 1, 0);
        // RULES that don't fit are aside.
        BoxesWithBeads x = ruled("w+1", "w+2", "w+3;l+1", "w+3;l+2");
        x.watch(2, 0, 5, 8);
        part("of two", x, 2, 0, 0);
        x.watch(0, 0, 5, 6);
        part("of one", x, 1, 0, 0);
        x.watch(0, 0, 5, 5);
        Due.is("38: of none", x.part(), 0);
        Due.row("38: the ROW stays", x, 0, 0);
    }

    // 39: "Number i of the ROW. NoSuchElementException: none such."

    private static void rowsAtEdges() {
        for (int i : new int[] {0, -1, 1, Integer.MIN_VALUE, Integer.MAX_VALUE}) {
            Due.is("39: no ROW, number " + i, Due.rowThrows(new BoxesWithBeads(), i), true);
            int of = i;
            if (i < 0 || i > 8) {
                Whole.stays("39: row(" + i + ")", x -> Due.rowThrows(x, of) ? 1 : 0, 1);
            }
        }
        // By the longest of a board, of a heap, and the shortest ones.
        BoxesWithBeads x = Due.with("n20/1", "r0:1");
        x.play(0);
        Due.is("39: the last of 20", x.row(19), 0);
        Due.is("39: no 21st", Due.rowThrows(x, 20), true);
        x.fresh(0, 0);
        x.side(0);
        x.play(0);
        Due.is("39: an empty ROW", Due.rowThrows(x, 0), true);
        Due.is("39: an empty ROW", Due.rowThrows(x, -1), true);
    }

    /** How many numbers each call that tells a ROW tells, and that the next is none. */
    private static void rowsOfEach() {
        BoxesWithBeads x = Whole.heap();
        hasRow("value", x, x.value(18), 1);
        hasRow("run", x, x.run(0, 3), 3);
        hasRow("odds", x, x.odds(0), 3);
        hasRow("ways", x, x.ways(2, 0), 5);
        hasRow("knows", x, x.knows(), 2);
        hasRow("teach of one", x, x.teach(1, 1, 0), 2);
        hasRow("teach of two", x, x.teach(3, 1, 0), 3);
        hasRow("teach of three", x, x.teach(7, 1, 0), 4);
        hasRow("part", x, x.part(), 2);
        Due.game(x, "n1/1");
        hasRow("play", x, x.play(0), 1);
        Due.game(x, "g3x3k3");
        hasRow("value", x, x.value(0), 9);
        // Others tell none.
        hasRow("come", x, x.come(0, 1), 9);
        hasRow("few", x, x.few(0, 1), 9);
        hasRow("join", x, x.keep(0) ? x.join(0) : -9, 9);
        hasRow("fits", x, x.fits(), 9);
        hasRow("share", x, x.share(0), 9);
        hasRow("errs", x, x.errs(0), 9);
    }

    private static void hasRow(String what, BoxesWithBeads x, int answer, int many) {
        Due.is("39: " + what + " is taken: " + answer, answer >= -2, true);
        Due.is("39: the ROW of " + what, x.count(16), many);
        Due.is("39: the last number", Due.rowThrows(x, many - 1), false);
        Due.is("39: none behind it", Due.rowThrows(x, many), true);
        Due.is("39: none ahead of it", Due.rowThrows(x, -1), true);
    }

    /** Looking at it changes nothing of it. */
    private static void rowsThrowOnly() {
        BoxesWithBeads x = Whole.board();
        for (int i = 0; i < 3; i++) {
            for (int n = 0; n < 9; n++) {
                Due.is("39: number " + n, x.row(n), n);
            }
            Due.is("39: none such", Due.rowThrows(x, 9), true);
        }
        Whole.quiet("39: row", Whole::board, y -> y.row(8));
    }
}
