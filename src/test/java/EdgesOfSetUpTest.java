import java.util.function.Supplier;

/** The edges that promises 7 to 12 name, each by itself. */
public final class EdgesOfSetUpTest {
    private static final int[] FAR = {-2, -1, 2, 3, 100, Integer.MIN_VALUE, Integer.MAX_VALUE};

    public static void main(String[] args) {
        sidesRefused();
        sidesTaken();
        sidesOfSpent();
        likenessTaken();
        freshRefused();
        freshTaken();
        freshByStones();
        sheetsRefused();
        sheetsOrder();
        sheetsMissing();
        sheetsOfSome();
        sheetsLowest();
        sheetsRound();
        paysRefused();
        paysTaken();
        paysOfEight();
        seedsTaken();
        Due.close("EdgesOfSetUpTest");
    }

    // 7: "THE CHEST's SIDE becomes v (as with game() all BOXES are emptied): what it was. Refused: others."

    private static void sidesRefused() {
        for (int v : FAR) {
            Whole.stays("7: side(" + v + ")", x -> x.side(v), -1);
        }
    }

    private static void sidesTaken() {
        Whole.empties("7: 0 behind 0", Whole::heap, x -> x.side(0), 0);
        Whole.empties("7: 1 behind 0", Whole::heap, x -> x.side(1), 0);
        Whole.empties("7: 0 behind 1", Whole::board, x -> x.side(0), 1);
        Whole.empties("7: 1 behind 1", Whole::board, x -> x.side(1), 1);
        BoxesWithBeads x = Whole.heap();
        Due.is("7: signs of THE TEXT", x.count(15), 5);
        x.side(1);
        Due.is("7: THE TEXT stays", x.count(15), 5);
        Due.is("7: the SIDE", x.count(14), 1);
        Due.is("7: BOXES of SIDE 0 are THE CHEST's no more", x.open(18), -1);
        Due.is("7: those of SIDE 1 are", x.open(17) > 0, true);
        Due.is("7: the game stays", x.state(18), 0);
        Due.is("7: what it was", x.side(0), 1);
        Due.is("7: the SIDE", x.count(14), 0);
    }

    /** "emptied (their beads go back to the BAG)": those that are SPENT are in no BOX. */
    private static void sidesOfSpent() {
        Supplier<BoxesWithBeads> made = () -> {
            BoxesWithBeads x = Due.with("n1/1m", "f1");
            Due.rule(x, "l-3");
            x.pay(0);
            x.run(0, 1);
            return x;
        };
        BoxesWithBeads x = made.get();
        Due.is("7: SPENT", x.count(2), 3);
        Due.is("7: one is left in its BOX", x.count(0), 1);
        x.side(0);
        Due.is("7: SPENT stay SPENT", x.count(2), 3);
        Due.is("7: the one is in the BAG", x.count(1), 9997);
        x = made.get();
        x.likeness(false);
        Due.is("8: the one is in the BAG", x.count(1), 9997);
        x = made.get();
        Due.game(x, "n1/1");
        Due.is("4: the one is in the BAG", x.count(1), 9997);
    }

    // 8: "LIKENESS is on or not (all BOXES are emptied): what it was."

    private static void likenessTaken() {
        Supplier<BoxesWithBeads> off = () -> {
            BoxesWithBeads x = Whole.board();
            x.likeness(false);
            x.run(0, 9);
            x.keep(2);
            return x;
        };
        Whole.empties("8: on behind on", Whole::board, x -> x.likeness(true) ? 1 : 0, 1);
        Whole.empties("8: off behind on", Whole::board, x -> x.likeness(false) ? 1 : 0, 1);
        Whole.empties("8: on behind off", off, x -> x.likeness(true) ? 1 : 0, 0);
        Whole.empties("8: off behind off", off, x -> x.likeness(false) ? 1 : 0, 0);
        // Of n each POSITION has its own BOX either way, yet they are emptied.
        Whole.empties("8: of a heap, off", Whole::heap, x -> x.likeness(false) ? 1 : 0, 1);
        Whole.empties("8: of a heap, on", Whole::heap, x -> x.likeness(true) ? 1 : 0, 1);
        BoxesWithBeads x = Whole.board();
        Due.is("8: a like one", x.like(9), 1);
        x.likeness(false);
        Due.is("8: its own", x.like(9), 9);
        Due.is("8: THE TEXT stays", x.count(15), 5);
        Due.is("8: the SIDE stays", x.count(14), 1);
        x.likeness(true);
        Due.is("8: a like one", x.like(9), 1);
    }

    // 9: "FRESH s (0 .. 20) becomes v (0 .. 20): what it was. Refused: others."

    private static void freshRefused() {
        for (int far : new int[] {-1, 21, 22, -20, Integer.MIN_VALUE, Integer.MAX_VALUE}) {
            Whole.stays("9: fresh(" + far + ", 0)", x -> x.fresh(far, 0), -1);
            Whole.stays("9: fresh(0, " + far + ")", x -> x.fresh(0, far), -1);
            Whole.stays("9: fresh(20, " + far + ")", x -> x.fresh(20, far), -1);
            Whole.stays("9: fresh(" + far + ", 20)", x -> x.fresh(far, 20), -1);
        }
    }

    private static void freshTaken() {
        for (int s = 0; s <= 20; s++) {
            BoxesWithBeads x = new BoxesWithBeads();
            Due.is("9: at first, of " + s, x.fresh(s, 0), 4);
            Due.is("9: was the least", x.fresh(s, 20), 0);
            Due.is("9: was the greatest", x.fresh(s, 19), 20);
            Due.is("9: was 19", x.fresh(s, 1), 19);
            for (int other = 0; other <= 20; other++) {
                Due.is("9: " + other + " behind " + s, x.fresh(other, 4), other == s ? 1 : 4);
            }
        }
        // BOXES that are opened keep their beads.
        BoxesWithBeads x = Due.with("n3/1");
        Due.is("9: four", x.open(6), 4);
        x.fresh(0, 9);
        Due.is("9: four still", x.beads(6, 0), 4);
        x.side(0);
        Due.is("9: nine", x.open(6), 9);
    }

    /** Terms 2: "of a POSITION with s stones (of n: HEAP less what is left) FRESH s". */
    private static void freshByStones() {
        for (int side = 0; side <= 1; side++) {
            BoxesWithBeads x = Due.with("n20/1");
            Due.is("9: a sheet of 0 to 20", x.sheet(2, 21, 0, 1), 210);
            x.side(side);
            for (int gone = side; gone <= 19; gone += 2) {
                Due.is("9: " + gone + " are gone", x.open(2 * (20 - gone) + side), gone);
            }
        }
        BoxesWithBeads x = Due.with("g3x3k3");
        x.sheet(2, 21, 1, 1);
        x.likeness(false);
        Due.is("9: no stone", x.open(0), 9);
        Due.is("9: two stones", x.open(1 + 6), 7 * 3);
        // The last place of all: eight stones lie.
        int eight = 1 + 6 + 9 + 54 + 81 + 243 + 1458 + 4374;
        Due.is("9: one place is left", x.state(eight), 0);
        Due.is("9: eight stones", x.open(eight), 9);
        x.side(1);
        Due.is("9: one stone", x.open(6561), 8 * 2);
    }

    // 10: "of n entries f, f + step, .. (of bytes, shorts the lowest bits, with their sign; below 0: 0, above 20: 20),
    // or a missing one (3): those behind it are 0: the sum of all. -2: n below 0 (of kinds 0 .. 2; nothing changes);
    // -3: missing (all 0). NONE: another kind, n above 21 (these first)."

    private static void sheetsRefused() {
        for (int kind : new int[] {-1, 4, 5, Integer.MIN_VALUE, Integer.MAX_VALUE}) {
            Whole.stays("10: kind " + kind, x -> x.sheet(kind, 1, 1, 1), -1);
            Whole.stays("10: kind " + kind + ", ahead of n below 0", x -> x.sheet(kind, -1, 1, 1), -1);
            Whole.stays("10: kind " + kind + ", n above 21", x -> x.sheet(kind, 22, 1, 1), -1);
        }
        for (int kind = 0; kind <= 3; kind++) {
            int of = kind;
            for (int n : new int[] {22, 23, Integer.MAX_VALUE}) {
                Whole.stays("10: " + n + " of kind " + kind, x -> x.sheet(of, n, 1, 1), -1);
            }
        }
        for (int kind = 0; kind <= 2; kind++) {
            int of = kind;
            for (int n : new int[] {-1, -2, Integer.MIN_VALUE}) {
                Whole.stays("10: " + n + " of kind " + kind, x -> x.sheet(of, n, 1, 1), -2);
            }
        }
    }

    /** What FRESH is, from s on, as far as numbers are told; 0 behind them. */
    private static void hasFresh(String what, BoxesWithBeads x, int... want) {
        for (int s = 0; s <= 20; s++) {
            int v = x.fresh(s, 0);
            x.fresh(s, v);
            Due.is(what + ": FRESH " + s, v, s < want.length ? want[s] : 0);
        }
    }

    private static void sheetsOrder() {
        int[] all = new int[21];
        for (int s = 0; s <= 20; s++) {
            all[s] = s;
        }
        for (int kind = 0; kind <= 2; kind++) {
            BoxesWithBeads x = new BoxesWithBeads();
            Due.is("10: 21 of kind " + kind, x.sheet(kind, 21, 0, 1), 210);
            hasFresh("10: 21 of kind " + kind, x, all);
            Due.is("10: 1 of kind " + kind, x.sheet(kind, 1, 7, 1), 7);
            hasFresh("10: those behind it are 0", x, 7);
            Due.is("10: 20 of kind " + kind, x.sheet(kind, 20, 3, 0), 60);
            Due.is("10: the last one is 0", x.fresh(20, 0), 0);
            Due.is("10: that ahead of it is not", x.fresh(19, 0), 3);
            Due.is("10: 0 of kind " + kind, x.sheet(kind, 0, 7, 1), 0);
            hasFresh("10: none of kind " + kind, x);
        }
    }

    private static void sheetsMissing() {
        for (int n : new int[] {Integer.MIN_VALUE, -1, 0, 1, 20, 21}) {
            BoxesWithBeads x = new BoxesWithBeads();
            Due.is("10: missing, n " + n, x.sheet(3, n, 5, 5), -3);
            hasFresh("10: missing, n " + n, x);
        }
        Whole.becomes("10: missing changes FRESH alone", Whole::heap, x -> x.sheet(3, 1, 1, 1), -3, y -> {
            for (int s = 0; s <= 20; s++) {
                y.fresh(s, 0);
            }
            return 0;
        });
    }

    private static void sheetsOfSome() {
        for (int kind = 0; kind <= 2; kind++) {
            BoxesWithBeads x = new BoxesWithBeads();
            // -2, -1, 0, 1, 2
            Due.is("10: below 0: 0", x.sheet(kind, 5, -2, 1), 3);
            hasFresh("10: below 0", x, 0, 0, 0, 1, 2);
            // 18, 19, 20, 21, 22
            Due.is("10: above 20: 20", x.sheet(kind, 5, 18, 1), 97);
            hasFresh("10: above 20", x, 18, 19, 20, 20, 20);
            // 1, 0, -1
            Due.is("10: down", x.sheet(kind, 3, 1, -1), 1);
            hasFresh("10: down", x, 1);
            Whole.becomes("10: it changes FRESH alone, as fresh() does", Whole::heap, z -> z.sheet(2, 2, 9, 9), 27, y -> {
                for (int s = 0; s <= 20; s++) {
                    y.fresh(s, s == 0 ? 9 : s == 1 ? 18 : 0);
                }
                return 0;
            });
        }
    }

    private static void one(int kind, int f, int want) {
        Due.is("10: " + f + " of kind " + kind, new BoxesWithBeads().sheet(kind, 1, f, 0), want);
    }

    private static void sheetsLowest() {
        int[] bytes = {127, 128, 129, 255, 256, 257, 276, 277, 383, 384, -1, -128, -129, -255, -256, -250};
        int[] asBytes = {20, 0, 0, 0, 0, 1, 20, 20, 20, 0, 0, 0, 20, 1, 0, 6};
        for (int i = 0; i < bytes.length; i++) {
            one(0, bytes[i], asBytes[i]);
        }
        int[] shorts = {127, 128, 256, 32767, 32768, 65535, 65536, 65537, 65556, 65557, -1, -32768, -32769, -65536, -65530};
        int[] asShorts = {20, 20, 20, 20, 0, 0, 0, 1, 20, 20, 0, 0, 20, 0, 6};
        for (int i = 0; i < shorts.length; i++) {
            one(1, shorts[i], asShorts[i]);
        }
        int[] ints = {128, 256, 32768, 65536, 65537, Integer.MAX_VALUE, Integer.MIN_VALUE, -1, 0, 1, 20, 21, -65530};
        int[] asInts = {20, 20, 20, 20, 20, 20, 0, 0, 0, 1, 20, 20, 0};
        for (int i = 0; i < ints.length; i++) {
            one(2, ints[i], asInts[i]);
        }
        for (int kind = 0; kind <= 1; kind++) {
            one(kind, Integer.MAX_VALUE, 0);
            one(kind, Integer.MIN_VALUE, 0);
            one(kind, Integer.MIN_VALUE + 5, 5);
        }
    }

    private static void sheetsRound() {
        BoxesWithBeads x = new BoxesWithBeads();
        // 126, 127, 128 = -128, -127
        Due.is("10: bytes go round", x.sheet(0, 4, 126, 1), 40);
        hasFresh("10: bytes go round", x, 20, 20, 0, 0);
        // 250 = -6, 255 = -1, 260 = 4, 265 = 9
        Due.is("10: bytes go round", x.sheet(0, 4, 250, 5), 13);
        hasFresh("10: bytes go round", x, 0, 0, 4, 9);
        // 32767, 32768 = -32768
        Due.is("10: shorts go round", x.sheet(1, 2, 32767, 1), 20);
        hasFresh("10: shorts go round", x, 20, 0);
        // 65530 = -6, 65535 = -1, 65540 = 4, 65545 = 9
        Due.is("10: shorts go round", x.sheet(1, 4, 65530, 5), 13);
        hasFresh("10: shorts go round", x, 0, 0, 4, 9);
        Due.is("10: ints don't there", x.sheet(2, 4, 65530, 5), 80);
        // The greatest, the least
        Due.is("10: ints go round", x.sheet(2, 3, Integer.MAX_VALUE - 1, 1), 40);
        hasFresh("10: ints go round", x, 20, 20, 0);
        // 3, then the least and 2, 1, the least
        Due.is("10: by the greatest step", x.sheet(2, 4, 3, Integer.MAX_VALUE), 4);
        hasFresh("10: by the greatest step", x, 3, 0, 1, 0);
        // 3, MIN + 3, 3, MIN + 3
        Due.is("10: by the least step", x.sheet(2, 4, 3, Integer.MIN_VALUE), 6);
        hasFresh("10: by the least step", x, 3, 0, 3, 0);
        Due.is("10: bytes of the least step", x.sheet(0, 4, 3, Integer.MIN_VALUE), 12);
    }

    // 11: "THE RULE becomes a RULE (NONE: none): what it was. -2: refused: none such."

    private static void paysRefused() {
        for (int rule : new int[] {-2, -3, 3, 4, 8, Integer.MIN_VALUE, Integer.MAX_VALUE}) {
            Whole.stays("11: pay(" + rule + ") of 3", x -> x.pay(rule), -2);
        }
        Due.is("11: no RULES", new BoxesWithBeads().pay(0), -2);
        Due.is("11: none behind none", new BoxesWithBeads().pay(-1), -1);
    }

    private static void paysTaken() {
        BoxesWithBeads x = Whole.heap();
        Due.is("11: the last one", x.pay(2), 0);
        Due.is("11: count(13)", x.count(13), 2);
        Due.is("11: none", x.pay(-1), 2);
        Due.is("11: count(13)", x.count(13), -1);
        x.run(2, 9);
        int spent = x.count(2);
        int beads = x.count(0);
        x.run(2, 9);
        Due.is("11: nothing is SPENT", x.count(2), spent);
        Due.is("11: nothing comes", x.count(0), beads);
        Due.is("11: the first one", x.pay(0), -1);
        Due.is("11: the same", x.pay(0), 0);
        Whole.becomes("11: the same changes nothing", Whole::heap, y -> y.pay(0), 0, y -> 0);
    }

    private static void paysOfEight() {
        BoxesWithBeads x = Due.with("n1/1", "f1");
        for (int i = 0; i < 8; i++) {
            Due.is("11: number " + i + " is none yet", x.pay(i), -2);
            Due.is("11: told", Due.rule(x, "w+" + (i + 1)), i);
        }
        Due.is("11: number 8", x.pay(8), -2);
        int was = -1;
        int beads = 4;
        for (int i = 7; i >= 0; i--) {
            Due.is("11: number " + i, x.pay(i), was);
            x.play(0);
            beads += i + 1;
            Due.is("11: it pays by " + (i + 1), x.beads(2, 0), beads);
            was = i;
        }
    }

    // 12: "R becomes v: what it was."

    private static void seedsTaken() {
        int was = 1;
        BoxesWithBeads x = new BoxesWithBeads();
        for (int v : new int[] {0, -1, Integer.MIN_VALUE, Integer.MAX_VALUE, 65536, 1, 1}) {
            Due.is("12: seed(" + v + ")", x.seed(v), was);
            was = v;
        }
        Whole.becomes("12: the same R again", Whole::heap, y -> {
            int r = y.seed(5);
            y.seed(r);
            return 0;
        }, 0, y -> 0);
        // 0 goes on as 12345, whose upper half is 0.
        x = Due.with("n3/2", "f1");
        x.seed(0);
        x.play(0);
        Due.is("12: the first MOVE of 0", x.row(0), 0);
        x = Due.with("n1/1", "f1");
        for (int v : new int[] {0, -1, Integer.MIN_VALUE, Integer.MAX_VALUE, 12345}) {
            x.seed(v);
            x.play(0);
            long next = (v * 1103515245L + 12345L) & 0xffffffffL;
            Due.is("12: R goes round as an int behind " + v, x.seed(0), (int) next);
        }
    }
}
