/** Promises 1 to 6: a new object, and the texts of games, rules and foes. */
public final class TextsTest {
    public static void main(String[] args) {
        newObject();
        signs();
        ends();
        games();
        gamesChange();
        rules();
        rulesFull();
        foes();
        foesFull();
        Due.close("TextsTest");
    }

    private static void newObject() {
        BoxesWithBeads x = new BoxesWithBeads();
        long[] counts = {0, 10000, 0, 0, 0, 0, 0, 0, 0, 0, 0, 0, 0, -1, 0, 0, 0};
        for (int what = 0; what < counts.length; what++) {
            Due.is("1: count(" + what + ") of a new one", x.count(what), counts[what]);
        }
        for (int s = 0; s <= 20; s++) {
            Due.is("1: FRESH " + s, x.fresh(s, 4), 4);
        }
        Due.is("1: R", x.seed(1), 1);
        Due.is("1: THE RULE", x.pay(-1), -1);
        Due.is("1: LIKENESS", x.likeness(true), true);
        Due.is("1: SIDE", x.side(0), 0);
        Due.is("1: the game is of 9 places", x.boxes(), 338);
        Due.is("1: row(0) throws", Due.rowThrows(x, 0), true);
        Due.is("1: nothing kept", x.again(0), false);
        Due.is("1: no foe", x.play(0), -1);
        Due.is("1: nothing watched", x.fits(), 0);
    }

    private static void signs() {
        BoxesWithBeads x = new BoxesWithBeads();
        for (int i = 1; i <= 15; i++) {
            Due.is("2: sign number " + i, x.sign(0x67337833), 4 * i);
        }
        Due.is("2: more than 60", x.sign(0x67337833), -1);
        Due.is("2: 60 stay", x.count(15), 60);
        Due.is("2: 58", x.end(58), true);
        Due.is("2: 62 would be too many", x.sign(0), -1);
        Due.is("2: 57", x.end(57), true);
        Due.is("2: 61 would be too many", x.sign(0), -1);
        Due.is("2: 56", x.end(56), true);
        Due.is("2: 60 may be", x.sign(-1), 60);
        Due.is("2: the text is the first one still", x.end(4), true);
        Due.is("2: the highest byte first", x.game(), -5);

        Due.is("2: behind", x.sign(0x67317831), 4);
        Due.is("2: behind", x.sign(0x6b310000), 8);
        Due.is("2: behind", x.end(6), true);
        Due.is("2: one text of two calls", x.game(), 0);
        Due.is("2: and it is this one", x.state(1), 2);
        Due.is("2: signs above 127", x.sign(0xe733f833), 4);
        Due.is("2: are no letters", x.game(), -1);
    }

    private static void ends() {
        BoxesWithBeads x = new BoxesWithBeads();
        Due.is("3: end(0) of none", x.end(0), true);
        Due.is("3: end(1) of none", x.end(1), false);
        Due.is("3: end(-1)", x.end(-1), false);
        Due.is("3: sign", x.sign(0x66316d31), 4);
        Due.is("3: end(5) of 4", x.end(5), false);
        Due.is("3: end(-1) of 4", x.end(-1), false);
        Due.is("3: end(least)", x.end(Integer.MIN_VALUE), false);
        Due.is("3: end(greatest)", x.end(Integer.MAX_VALUE), false);
        Due.is("3: nothing changed", x.count(15), 4);
        Due.is("3: end(4) of 4", x.end(4), true);
        Due.is("3: end(2) of 4", x.end(2), true);
        Due.is("3: two alone", x.count(15), 2);
        Due.is("3: end(3) of 2", x.end(3), false);
        Due.is("3: the first two", x.foe(), 0);
        Due.is("3: a fool may take all", x.shows(0), 338);
    }

    private static void games() {
        String[] good = {"g3x3k3", "g1x1k1", "g1x1k3m", "g3x1k2", "g2x3k1m", "n1/1", "n01/1", "n20/3", "n9/2m", "n10/1"};
        for (String told : good) {
            BoxesWithBeads x = new BoxesWithBeads();
            Due.is("4: " + told, Due.game(x, told), 0);
            Due.is("4: no text behind " + told, x.count(15), 0);
        }
        String[] bad = {"", "x", "G3x3k3", "1g", ";", "g", "g0x1k1", "g4x3k3", "gx", "g3", "g3y3k3", "g33", "g3x",
            "g3x0k1", "g3x4k1", "g3xk", "g3x3", "g3x3m", "g3x3k", "g3x3k0", "g3x3k4", "g3x3km", "g3x3k3x", "g3x3k3;",
            "g3x3k33", "g3x3k3mm", "g3x3k3m;", "n", "n/1", "nm", "n0/1", "n0", "n0x", "n00/1", "n00", "n21/1", "n30/1",
            "n99", "n5", "n5m", "n5x", "n20", "n200/1", "n5/", "n5/0", "n5/4", "n5/m", "n5/3x", "n5/33", "n5/3mm",
            "n05/3mx", "n05", "n:/1", "n1:/1", "g:x1k1", "n/:"};
        int[] at = {0, 0, 0, 0, 0, 1, 1, 1, 1, 2, 2, 2, 3,
            3, 3, 3, 4, 4, 5, 5, 5, 5, 6, 6,
            6, 7, 7, 1, 1, 1, 1, 1, 1, 2, 2, 2, 2,
            2, 2, 2, 2, 3, 3, 3, 3, 3, 3, 4, 4, 5,
            6, 3, 1, 2, 1, 1};
        BoxesWithBeads x = new BoxesWithBeads();
        for (int i = 0; i < bad.length; i++) {
            Due.is("4: '" + bad[i] + "'", Due.game(x, bad[i]), -1 - at[i]);
            Due.is("4: no text behind '" + bad[i] + "'", x.count(15), 0);
        }
        Due.is("4: the game is the old one", x.boxes(), 338);
    }

    private static void gamesChange() {
        BoxesWithBeads x = Due.with("n3/2");
        x.open(6);
        Due.is("4: beads", x.count(0), 8);
        Due.is("4: a wrong game", Due.game(x, "n3/4"), -4);
        Due.is("4: keeps the beads", x.count(0), 8);
        Due.is("4: a game", Due.game(x, "n3/2"), 0);
        Due.is("4: no beads", x.count(0), 0);
        Due.is("4: all in the BAG", x.count(1), 10000);
        Due.is("4: no BOX is opened", x.count(3), 0);
        Due.is("4: unopened", x.beads(6, 0), -2);
        Due.is("4: a foe", Due.foe(x, "m1"), 0);
        Due.is("4: a rule", Due.rule(x, "l-3"), 0);
        x.pay(0);
        Due.is("4: a lost game", x.play(0), 0);
        long spent = x.count(2);
        Due.is("4: beads were SPENT", spent > 0, true);
        Due.is("4: a game of the other form", Due.game(x, "g2x2k2m"), 0);
        Due.is("4: SPENT ones don't come back", x.count(1), 10000 - spent);
        Due.is("4: foes stay", x.count(12), 1);
        Due.is("4: THE RULE stays", x.count(13), 0);
        Due.is("4: games stay", x.count(6), 1);
    }

    private static void rules() {
        String[] good = {"w+1", "l-0", "d+99*", "e0", "e99", "w+01", "w+1;w-2", "w+3;d+1;l-1;e2", "e1;e2;e3", "w+1*;l-9*;e09"};
        BoxesWithBeads x = new BoxesWithBeads();
        for (int i = 0; i < good.length - 2; i++) {
            Due.is("5: " + good[i], Due.rule(x, good[i]), i);
            Due.is("5: no text behind", x.count(15), 0);
        }
        Due.is("5: 8 of them", x.count(11), 8);
        x = new BoxesWithBeads();
        Due.is("5: " + good[8], Due.rule(x, good[8]), 0);
        Due.is("5: " + good[9], Due.rule(x, good[9]), 1);

        String[] bad = {"", "x", ";w+1", "+1", "W+1", "w", "w1", "w*1", "l;", "w+", "d-x", "l+;", "w+*", "w+1;", "w+1;;",
            "w+1;x", "w+1d", "w+123", "w+1**", "w+12*1", "w+1*d", "e", "e+5", "ex", "e5*", "e5;", "e123", "e5;w", "d-1 ;",
            "w+:", "w+1:", "e:", "w+/"};
        int[] at = {0, 0, 0, 0, 0, 1, 1, 1, 1, 2, 2, 2, 2, 4, 4,
            4, 3, 4, 4, 5, 4, 1, 1, 1, 2, 3, 3, 4, 3,
            2, 3, 1, 2};
        for (int i = 0; i < bad.length; i++) {
            Due.is("5: '" + bad[i] + "'", Due.rule(x, bad[i]), -1 - at[i]);
            Due.is("5: no text behind '" + bad[i] + "'", x.count(15), 0);
        }
        String nine = "w+1;w+1;w+1;w+1;w+1;w+1;w+1;w+1;w+1;";
        Due.is("5: 41 signs", Due.rule(x, nine + "w+12*"), -41);
        Due.is("5: 40 signs and one that could not go on", Due.rule(x, nine + "w+12x"), -41);
        Due.is("5: 40 signs that end too early", Due.rule(x, nine + "w+1;"), -41);
        Due.is("5: 40 signs that could go on, and more", Due.rule(x, nine + "w+1;w+1;"), -41);
        Due.is("5: an earlier fault of a long one", Due.rule(x, nine + "wx123456"), -38);
        Due.is("5: a fault at the last sign", Due.rule(x, nine + "w+1x"), -40);
        Due.is("5: 40 signs", Due.rule(x, nine + "w+1*"), 2);
        Due.is("5: none of the wrong ones counts", x.count(11), 3);
        Due.is("5: none became THE RULE", x.count(13), -1);
    }

    private static void rulesFull() {
        BoxesWithBeads x = new BoxesWithBeads();
        for (int i = 0; i < 8; i++) {
            Due.is("5: rule " + i, Due.rule(x, "w+" + i), i);
        }
        Due.is("5: a ninth", Due.rule(x, "w+9"), -100);
        Due.is("5: a ninth, a wrong one", Due.rule(x, "x"), -100);
        Due.is("5: a ninth, an empty one", x.rule(), -100);
        Due.is("5: the text is empty then", x.count(15), 0);
        Due.is("5: 8 stay", x.count(11), 8);
    }

    private static void foes() {
        BoxesWithBeads x = new BoxesWithBeads();
        String[] good = {"f1", "m9", "t5", "r0:1", "r876543210:9", "f1;f1", "r1:1;m2;t3;f4", "f1;m1;t1;r8:1;f9;m9;t9"};
        for (int i = 0; i < good.length; i++) {
            Due.is("6: " + good[i], Due.foe(x, good[i]), i);
            Due.is("6: no text behind", x.count(15), 0);
        }
        Due.is("6: 8 of them", x.count(12), 8);
        x = new BoxesWithBeads();
        String[] bad = {"", "x", "F1", ";f1", "1", "f", "f0", "fm", "m;", "t:", "f12", "f1m1", "f1:", "f1;", "f1;;", "f1;1",
            "r", "r:1", "r9:1", "rf1", "r0", "r01", "r01x", "r00:1", "r010:1", "r9", "r0:", "r0:0", "r0:x", "r0:1;",
            "r0123456780:1", "r0123456788:1", "r012345678", "r012345678;", "f1;r22:1", "f1 "};
        int[] at = {0, 0, 0, 0, 0, 1, 1, 1, 1, 1, 2, 2, 2, 3, 3, 3,
            1, 1, 1, 1, 2, 3, 3, 2, 3, 1, 3, 3, 3, 5,
            10, 10, 10, 10, 5, 2};
        for (int i = 0; i < bad.length; i++) {
            Due.is("6: '" + bad[i] + "'", Due.foe(x, bad[i]), -1 - at[i]);
            Due.is("6: no text behind '" + bad[i] + "'", x.count(15), 0);
        }
        String seven = "r1:1;r1:1;r1:1;r1:1;r1:1;r1:1;r1:1;";
        Due.is("6: 41 signs", Due.foe(x, seven + "r123:1"), -41);
        Due.is("6: 40 signs that could go on", Due.foe(x, seven + "r123:1;f1"), -41);
        Due.is("6: a fault at the last sign", Due.foe(x, seven + "r12:0"), -40);
        Due.is("6: 13 parts and a ; and more", Due.foe(x, "f1;f1;f1;f1;f1;f1;f1;f1;f1;f1;f1;f1;f1;f1"), -41);
        Due.is("6: 40 signs", Due.foe(x, seven + "r12:1"), 0);
        Due.is("6: 13 parts", Due.foe(x, "f1;f1;f1;f1;f1;f1;f1;f1;f1;f1;f1;f1;f1"), 1);
        Due.is("6: none of the wrong ones counts", x.count(12), 2);
    }

    private static void foesFull() {
        BoxesWithBeads x = new BoxesWithBeads();
        for (int i = 0; i < 8; i++) {
            Due.is("6: foe " + i, Due.foe(x, "f1"), i);
        }
        Due.is("6: a ninth", Due.foe(x, "f1"), -100);
        Due.is("6: a ninth, a wrong one", Due.foe(x, "f0"), -100);
        Due.is("6: a ninth, an empty one", x.foe(), -100);
        Due.is("6: the text is empty then", x.count(15), 0);
        Due.is("6: 8 stay", x.count(12), 8);
        Due.is("6: rules are counted for themselves", Due.rule(x, "e1"), 0);
    }
}
