import java.util.ArrayList;
import java.util.List;
import java.util.NoSuchElementException;

/** What the tests share: texts handed over, rows read, and answers that are held against those that are due. */
final class Due {
    private static int asked = 0;
    private static int wrong = 0;

    private Due() {
    }

    static void is(String what, long got, long want) {
        asked++;
        if (got != want) {
            wrong++;
            System.out.println(what + " answered " + got + ", due is " + want);
        }
    }

    static void is(String what, boolean got, boolean want) {
        is(what, got ? 1 : 0, want ? 1 : 0);
    }

    static void same(String what, Object got, Object want) {
        asked++;
        if (!want.equals(got)) {
            wrong++;
            System.out.println(what + " answered " + got + ", due is " + want);
        }
    }

    static void row(String what, BoxesWithBeads x, long... want) {
        List<Long> due = new ArrayList<>();
        for (long n : want) {
            due.add(n);
        }
        same(what + ": the row", rowOf(x), due);
    }

    static List<Long> rowOf(BoxesWithBeads x) {
        List<Long> row = new ArrayList<>();
        for (int i = 0; i < x.count(16); i++) {
            row.add(x.row(i));
        }
        return row;
    }

    static boolean rowThrows(BoxesWithBeads x, int i) {
        try {
            x.row(i);
            return false;
        } catch (NoSuchElementException e) {
            return true;
        }
    }

    /** Makes THE TEXT the told one, by signs of four and one end. */
    static void text(BoxesWithBeads x, String told) {
        x.end(0);
        for (int i = 0; i < told.length(); i += 4) {
            int v = 0;
            for (int j = i; j < i + 4; j++) {
                v = v << 8 | (j < told.length() ? told.charAt(j) & 255 : 0);
            }
            x.sign(v);
        }
        x.end(told.length());
    }

    static int game(BoxesWithBeads x, String told) {
        text(x, told);
        return x.game();
    }

    static int rule(BoxesWithBeads x, String told) {
        text(x, told);
        return x.rule();
    }

    static int foe(BoxesWithBeads x, String told) {
        text(x, told);
        return x.foe();
    }

    /** A new object whose game is told, with the foes told. */
    static BoxesWithBeads with(String game, String... foes) {
        BoxesWithBeads x = new BoxesWithBeads();
        is("game " + game, game(x, game), 0);
        for (int i = 0; i < foes.length; i++) {
            is("foe " + foes[i], foe(x, foes[i]), i);
        }
        return x;
    }

    /** All that can be asked without a change: counts, the ROW, and every BOX of the positions told. */
    static List<Long> picture(BoxesWithBeads x, int positions) {
        List<Long> all = rowOf(x);
        for (int what = 0; what <= 16; what++) {
            all.add((long) x.count(what));
        }
        for (int p = 0; p < positions; p++) {
            for (int m = 0; m < 9; m++) {
                all.add((long) x.beads(p, m));
            }
        }
        return all;
    }

    static void close(String name) {
        System.out.println(name + ": " + asked + " asked, " + wrong + " wrong");
        System.exit(wrong == 0 && asked > 0 ? 0 : 1);
    }
}
