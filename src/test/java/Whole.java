import java.math.BigInteger;
import java.util.ArrayList;
import java.util.List;
import java.util.function.Supplier;

/**
 * All that later calls can show of an object, as one list of numbers, and tests that a call changes nothing of it, or
 * changes it just as another call does. Looking spends some 300 of the 512 calls of an object.
 */
final class Whole {
    interface Call {
        long on(BoxesWithBeads x);
    }

    private static final int[] OF_HEAPS = {18, 14, 12, 8, 3, 2};
    private static final int[] OF_BOARDS = {0, 1, 3, 7, 11, 163};

    private Whole() {
    }

    /** An object in the middle of its life: beads in BOXES, SPENT ones, one chest kept, a ROW and a TEXT begun. */
    static BoxesWithBeads lived(String game, int side) {
        BoxesWithBeads x = Due.with(game, "f1", "m2;t1", "r12:3");
        Due.rule(x, "w+3*;d+1;l-1;e2");
        Due.rule(x, "w+3;l-1");
        Due.rule(x, "l-2;d+9");
        x.sheet(2, 21, 1, 1);
        x.side(side);
        x.pay(0);
        x.run(0, 20);
        x.keep(1);
        x.run(1, 9);
        x.watch(2, 0, 4, 7);
        x.value(game.startsWith("g") ? 0 : 18);
        Due.text(x, "f2;m7");
        return x;
    }

    static BoxesWithBeads heap() {
        return lived("n9/3", 0);
    }

    static BoxesWithBeads board() {
        return lived("g3x3k3", 1);
    }

    /** All that shows: THE TEXT and what is kept are looked at last, for looking at them changes the object. */
    static List<Long> of(BoxesWithBeads x) {
        return seen(x, true);
    }

    static List<Long> butRow(BoxesWithBeads x) {
        return seen(x, false);
    }

    private static List<Long> seen(BoxesWithBeads x, boolean withRow) {
        int[] positions = x.state(OF_HEAPS[0]) == 0 ? OF_HEAPS : OF_BOARDS;
        List<Long> all = new ArrayList<>();
        if (withRow) {
            all.add((long) x.count(16));
            all.addAll(Due.rowOf(x));
        }
        for (int what = 0; what <= 15; what++) {
            all.add((long) x.count(what));
        }
        for (int p : positions) {
            all.add((long) x.state(p));
            all.add((long) x.like(p));
            for (int m = 0; m < 9; m++) {
                all.add((long) x.beads(p, m));
            }
        }
        all.add((long) x.boxes());
        all.add((long) x.fits());
        for (int s = 0; s <= 20; s++) {
            int v = x.fresh(s, 0);
            x.fresh(s, v);
            all.add((long) v);
        }
        all.add(random(x));
        lookDeeper(x, all, positions);
        return all;
    }

    private static void lookDeeper(BoxesWithBeads x, List<Long> all, int[] positions) {
        all.add((long) x.foe());
        for (int f = 0; f < x.count(12); f++) {
            x.odds(f);
            all.addAll(Due.rowOf(x));
        }
        all.add((long) x.part());
        all.addAll(Due.rowOf(x));
        for (int i = 0; i < 3; i++) {
            all.add(x.again(i) ? 1L : 0L);
            for (int what = 0; what <= 5; what++) {
                all.add((long) x.count(what));
            }
            for (int p : positions) {
                all.add((long) x.beads(p, 0));
                all.add((long) x.beads(p, 2));
            }
            all.add(random(x));
        }
        all.add((long) x.run(0, 9));
        for (int what = 0; what <= 10; what++) {
            all.add((long) x.count(what));
        }
        all.add(random(x));
    }

    static long random(BoxesWithBeads x) {
        int r = x.seed(0);
        x.seed(r);
        return r;
    }

    /** The call answers so and changes nothing. */
    static void stays(String what, Supplier<BoxesWithBeads> made, Call call, long want) {
        becomes(what, made, call, want, y -> 0);
    }

    /** On a heap and on a board. */
    static void stays(String what, Call call, long want) {
        stays(what + " (a heap)", Whole::heap, call, want);
        stays(what + " (a board)", Whole::board, call, want);
    }

    /** The call changes nothing, whatever it answers. */
    static void quiet(String what, Supplier<BoxesWithBeads> made, Call call) {
        becomes(what, made, x -> {
            call.on(x);
            return 0;
        }, 0, y -> 0);
    }

    /** The call answers so and changes just what the other call changes. */
    static void becomes(String what, Supplier<BoxesWithBeads> made, Call call, long want, Call other) {
        BoxesWithBeads x = made.get();
        BoxesWithBeads y = made.get();
        Due.is(what, call.on(x), want);
        other.on(y);
        Due.same(what + ": what shows behind it", of(x), of(y));
    }

    /** The call changes the ROW alone. */
    static void rowAlone(String what, Supplier<BoxesWithBeads> made, Call call, long want, long... row) {
        BoxesWithBeads x = made.get();
        BoxesWithBeads y = made.get();
        Due.is(what, call.on(x), want);
        Due.row(what, x, row);
        Due.same(what + ": all but the row", butRow(x), butRow(y));
    }

    /** The call empties all BOXES: their beads are in the BAG, what is kept has gone out, all else is as it was. */
    static void empties(String what, Supplier<BoxesWithBeads> made, Call call, long want) {
        BoxesWithBeads x = made.get();
        BoxesWithBeads y = made.get();
        Due.is(what + ": ahead of it there were beads", x.count(0) > 0 && x.count(3) > 0, true);
        Due.is(what, call.on(x), want);
        Due.is(what + ": no beads in BOXES", x.count(0), 0);
        Due.is(what + ": SPENT stay", x.count(2), y.count(2));
        Due.is(what + ": all others are in the BAG", x.count(1), 10000 - y.count(2));
        for (int no = 3; no <= 5; no++) {
            Due.is(what + ": no BOX is opened, count " + no, x.count(no), 0);
        }
        for (int same = 6; same <= 13; same++) {
            Due.is(what + ": count " + same + " stays", x.count(same), y.count(same));
        }
        Due.same(what + ": the ROW stays", Due.rowOf(x), Due.rowOf(y));
        Due.is(what + ": R stays", random(x), random(y));
        for (int s = 0; s <= 20; s++) {
            Due.is(what + ": FRESH " + s + " stays", x.fresh(s, 1), y.fresh(s, 1));
        }
        Due.is(what + ": what was WATCHED stays", x.fits(), y.fits());
        for (int i = 0; i < 3; i++) {
            Due.is(what + ": nothing is kept under " + i, x.again(i), false);
            Due.is(what + ": nothing to join under " + i, x.join(i), -1);
        }
    }

    /** The thing of 65536 that the DRAW number n (from 1) behind a seed tells. */
    static int draw(int seed, int n) {
        long r = seed;
        for (int i = 0; i < n; i++) {
            r = (r * 1103515245L + 12345L) % 4294967296L;
        }
        r = r < 0 ? r + 4294967296L : r;
        return (int) (r / 65536);
    }

    /** The seed behind which the first DRAW leaves R so. */
    static int seedAhead(int r) {
        BigInteger all = BigInteger.ONE.shiftLeft(32);
        BigInteger back = BigInteger.valueOf(1103515245L).modInverse(all);
        return BigInteger.valueOf(r - 12345L).multiply(back).mod(all).intValue();
    }

    /** The least seed from 1 on behind which the first DRAWS of so many things each tell just these. */
    static int seedFor(int[] of, int... things) {
        for (int seed = 1; seed < 10000000; seed++) {
            boolean fits = true;
            for (int i = 0; i < things.length && fits; i++) {
                fits = draw(seed, i + 1) % of[i] == things[i];
            }
            if (fits) {
                return seed;
            }
        }
        throw new IllegalStateException("no such seed");
    }
}
