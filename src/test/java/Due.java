import java.util.ArrayList;
import java.util.List;
import java.util.NoSuchElementException;

/**
 * What the tests share: texts handed over, rows read, and answers that are held against those that are due. No test
 * asks one object more than 512 times, for what later calls answer is free.
 */
final class Due {
    private static int asked = 0;
    private static int wrong = 0;

    private Due() {
    }

    static void is(String what, long got, long want) {
        asked++;
        if (got != want) {
            wrong++;
            System.out.println(what + " answered " + got + ", due is " + want);
        }
    }

    static void is(String what, boolean got, boolean want) {
        is(what, got ? 1 : 0, want ? 1 : 0);
    }

    static void same(String what, List<Long> got, List<Long> want) {
        asked++;
        if (!want.equals(got)) {
            wrong++;
            int at = 0;
            while (at < got.size() && at < want.size() && got.get(at).equals(want.get(at))) {
                at++;
            }
            System.out.println(what + " answered " + from(got, at) + ", due is " + from(want, at));
        }
    }

    /** Long lists are told from where they differ. */
    private static String from(List<Long> all, int at) {
        int end = Math.min(all.size(), at + 9);
        return all.size() <= 20 ? all.toString() : "[.. number " + at + ": " + all.subList(Math.min(at, end), end) + " ..]";
    }

    static void row(String what, BoxesWithBeads x, long... want) {
        List<Long> due = new ArrayList<>();
        for (long n : want) {
            due.add(n);
        }
        same(what + ": the row", rowOf(x), due);
    }

    static List<Long> rowOf(BoxesWithBeads x) {
        List<Long> row = new ArrayList<>();
        for (int i = 0; i < x.count(16); i++) {
            row.add(x.row(i));
        }
        return row;
    }

    static boolean rowThrows(BoxesWithBeads x, int i) {
        try {
            x.row(i);
            return false;
        } catch (NoSuchElementException e) {
            return true;
        }
    }

    /** Makes THE TEXT the told one, by signs of four and one end. */
    static void text(BoxesWithBeads x, String told) {
        x.end(0);
        for (int i = 0; i < told.length(); i += 4) {
            int v = 0;
            for (int j = i; j < i + 4; j++) {
                v = v << 8 | (j < told.length() ? told.charAt(j) & 255 : 0);
            }
            x.sign(v);
        }
        x.end(told.length());
    }

    static int game(BoxesWithBeads x, String told) {
        text(x, told);
        return x.game();
    }

    static int rule(BoxesWithBeads x, String told) {
        text(x, told);
        return x.rule();
    }

    static int foe(BoxesWithBeads x, String told) {
        text(x, told);
        return x.foe();
    }

    /** A new object whose game is told, with the foes told. */
    static BoxesWithBeads with(String game, String... foes) {
        BoxesWithBeads x = new BoxesWithBeads();
        is("game " + game, game(x, game), 0);
        for (int i = 0; i < foes.length; i++) {
            is("foe " + foes[i], foe(x, foes[i]), i);
        }
        return x;
    }

    /** The counts, the ROW, and the beads of the first MOVES of the positions told: some of what must not change. */
    static List<Long> picture(BoxesWithBeads x, int moves, int... positions) {
        List<Long> all = rowOf(x);
        for (int what = 0; what <= 16; what++) {
            all.add((long) x.count(what));
        }
        for (int p : positions) {
            for (int m = 0; m < moves; m++) {
                all.add((long) x.beads(p, m));
            }
        }
        return all;
    }

    static void close(String name) {
        System.out.println(name + ": " + asked + " asked, " + wrong + " wrong");
        System.exit(wrong == 0 && asked > 0 ? 0 : 1);
    }
}
