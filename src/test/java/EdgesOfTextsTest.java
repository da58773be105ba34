import java.util.function.Supplier;

/** The edges that promises 1 to 6 name, each by itself, and what stands in Terms 1 and 2 of texts. */
public final class EdgesOfTextsTest {
    private static final String DIGITS = "0123456789";

    public static void main(String[] args) {
        newObjects();
        signsFour();
        signsSixty();
        endsAtAll();
        gamesBySign();
        gamesBySize();
        heapsByNumber();
        gamesLong();
        gamesRefused();
        gamesTaken();
        rulesBySign();
        rulesOfForty();
        rulesOfEight();
        rulesRefused();
        rulesTaken();
        foesBySign();
        foesOfForty();
        foesOfEight();
        foesRefused();
        foesTaken();
        Due.close("EdgesOfTextsTest");
    }

    // 1: "An empty chest."

    private static void newObjects() {
        BoxesWithBeads first = new BoxesWithBeads();
        BoxesWithBeads other = Whole.heap();
        other.side(1);
        other.likeness(false);
        other.open(17);
        BoxesWithBeads behind = new BoxesWithBeads();
        for (BoxesWithBeads x : new BoxesWithBeads[] {first, behind}) {
            for (int what = 0; what <= 16; what++) {
                Due.is("1: count(" + what + ")", x.count(what), what == 1 ? 10000 : what == 13 ? -1 : 0);
            }
            Due.is("1: g3x3k3: two are no row", x.state(1 + 3 + 54), 1);
            Due.is("1: g3x3k3: three are one", x.state(1 + 3 + 9 + 54 + 162), 2);
            Due.is("1: g3x3k3: all nine places", x.state(6561), 1);
            Due.is("1: no position of it is opened", x.beads(0, 0), -2);
            Due.is("1: LIKENESS is on", x.like(6561), 1);
            Due.is("1: FRESH 0", x.fresh(0, 4), 4);
            Due.is("1: FRESH 20", x.fresh(20, 4), 4);
            Due.is("1: R", x.seed(1), 1);
            Due.is("1: THE TEXT is empty", x.end(1), false);
            Due.is("1: and no game", x.game(), -1);
            Due.is("1: nothing WATCHED", x.watch(0, 0, 0, 0), 1);
            Due.is("1: no number 0 in the ROW", Due.rowThrows(x, 0), true);
            for (int i = 0; i < 3; i++) {
                Due.is("1: nothing kept under " + i, x.again(i), false);
                Due.is("1: nothing to join under " + i, x.join(i), -1);
            }
        }
    }

    // 2: "Four signs come behind THE TEXT, of v the highest byte first: how many it has. Refused: there would be more
    // than 60."

    private static void signsFour() {
        BoxesWithBeads x = new BoxesWithBeads();
        Due.is("2: four", x.sign('n' << 24 | '7' << 16 | '/' << 8 | '2'), 4);
        Due.is("2: the highest byte first", x.game(), 0);
        Due.is("2: a heap of 7", x.state(14), 0);
        Due.is("2: two may be taken", x.beads(14, 1), -2);
        Due.is("2: three may not", x.beads(14, 2), -1);
        x.end(0);
        Due.is("2: the highest byte above 127", x.sign(0xf0000000 | 'n' << 16), 4);
        Due.is("2: is the first sign", x.game(), -1);
        for (int v : new int[] {0, -1, 1, Integer.MIN_VALUE, Integer.MAX_VALUE}) {
            Due.is("2: four of " + v, x.sign(v), 4);
            Due.is("2: eight of " + v, x.sign(v), 8);
            Due.is("2: no game", x.game(), -1);
        }
        // "behind THE TEXT": behind what end() left.
        x.sign('f' << 24 | '1' << 16);
        x.end(2);
        Due.is("2: behind two", x.sign(';' << 24 | 'm' << 16 | '2' << 8 | 'x'), 6);
        x.end(5);
        Due.is("2: as one text", x.foe(), 0);
        Due.is("2: of two parts", x.seed(1), 1);
        x.run(0, 1);
        Due.is("2: by two DRAWS", x.count(6), 1);
    }

    private static void signsSixty() {
        for (int has = 53; has <= 60; has++) {
            BoxesWithBeads x = new BoxesWithBeads();
            for (int i = 0; i < 15; i++) {
                Due.is("2: so many", x.sign(0), 4 * i + 4);
            }
            Due.is("2: end", x.end(has), true);
            boolean refused = has + 4 > 60;
            Due.is("2: four more than " + has, x.sign(-1), refused ? -1 : has + 4);
            Due.is("2: so many stay of " + has, x.count(15), refused ? has : has + 4);
        }
        for (int v : new int[] {0, -1, 'f' << 24 | '1' << 16, Integer.MIN_VALUE, Integer.MAX_VALUE}) {
            Whole.stays("2: the 61st sign, of " + v, () -> filled(57, "f1;m2"), x -> x.sign(v), -1);
            Whole.stays("2: the 64th sign, of " + v, () -> filled(60, "f1;m2"), x -> x.sign(v), -1);
        }
    }

    /** Its TEXT is full, and its first signs are these. */
    private static BoxesWithBeads filled(int signs, String begins) {
        BoxesWithBeads x = Whole.heap();
        StringBuilder told = new StringBuilder(begins);
        while (told.length() < signs) {
            told.append(';');
        }
        Due.text(x, told.toString());
        x.end(signs);
        return x;
    }

    // 3: "THE TEXT has its first n signs alone: true; false if it has not so many, or n is below 0."

    private static void endsAtAll() {
        for (int has = 0; has <= 60; has += 5) {
            for (int n : new int[] {-1, 0, 1, has - 1, has, has + 1, 60, 61, Integer.MIN_VALUE, Integer.MAX_VALUE}) {
                BoxesWithBeads x = new BoxesWithBeads();
                for (int i = 0; i < has; i += 4) {
                    x.sign(0);
                }
                x.end(has);
                boolean may = n >= 0 && n <= has;
                Due.is("3: " + n + " of " + has, x.end(n), may);
                Due.is("3: " + n + " of " + has + ": so many then", x.count(15), may ? n : has);
            }
        }
        for (int n : new int[] {-1, 6, 60, Integer.MIN_VALUE, Integer.MAX_VALUE}) {
            Whole.stays("3: end(" + n + ") of 5", x -> x.end(n) ? 1 : 0, 0);
        }
        Whole.stays("3: end(5) of 5", x -> x.end(5) ? 1 : 0, 1);
        // "its first n signs alone": those behind are gone for good.
        BoxesWithBeads x = new BoxesWithBeads();
        Due.text(x, "f1;m1;t1");
        Due.is("3: two", x.end(2), true);
        Due.is("3: eight no more", x.end(8), false);
        Due.is("3: four behind the two", x.sign(';' << 24 | 'f' << 16 | '9' << 8 | 'x'), 6);
        Due.is("3: five", x.end(5), true);
        Due.is("3: f1;f9", x.foe(), 0);
        Due.is("3: no text", x.end(0), true);
        Due.is("3: no text", x.end(1), false);
    }

    // 4: "-1 - p: the sign at p can't stand there (its end, if it ends too early; 40, if it has more and the first 40
    // could go on or end; a HEAP of 0: at its last digit)."

    private interface Teller {
        int tell(BoxesWithBeads x, String told);
    }

    /** Puts each other sign at each place of a text, and ends it at each place; may: what can stand at each. */
    private static void eachSign(Teller teller, String told, boolean[] mayEnd, String... may) {
        BoxesWithBeads x = null;
        int asked = 0;
        for (int p = 0; p <= told.length(); p++) {
            if (!mayEnd[p]) {
                Due.is("'" + told.substring(0, p) + "' ends too early", teller.tell(new BoxesWithBeads(),
                        told.substring(0, p)), -1 - p);
            }
            for (char c = 0; c < 256; c++) {
                if (may[p].indexOf(c) >= 0) {
                    continue;
                }
                if (asked++ % 24 == 0) {
                    x = new BoxesWithBeads();
                }
                String bent = told.substring(0, p) + c + (p < told.length() ? told.substring(p + 1) : "");
                Due.is("'" + told + "' with sign " + (int) c + " at " + p, teller.tell(x, bent), -1 - p);
                Due.is("THE TEXT is empty then", x.count(15), 0);
            }
        }
    }

    private static boolean[] endsAt(int length, int... places) {
        boolean[] may = new boolean[length + 1];
        for (int p : places) {
            may[p] = true;
        }
        return may;
    }

    private static void gamesBySign() {
        eachSign(Due::game, "g3x2k1m", endsAt(7, 6, 7), "gn", "123", "x", "123", "k", "123", "m", "");
        eachSign(Due::game, "g1x3k3", endsAt(6, 6), "gn", "123", "x", "123", "k", "123", "m");
        eachSign(Due::game, "n12/3m", endsAt(6, 5, 6), "gn", DIGITS, DIGITS + "/", "/", "123", "m", "");
        eachSign(Due::game, "n7/1", endsAt(4, 4), "gn", DIGITS, "/", "123", "m");
        eachSign(Due::game, "n2/1", endsAt(4, 4), "gn", DIGITS, "0/", "123", "m");
        // A HEAP of 0 is at fault at its last digit, whatever is behind; another digit makes it another HEAP.
        Due.is("4: n0 and no more", Due.game(new BoxesWithBeads(), "n0"), -2);
        Due.is("4: n00 and no more", Due.game(new BoxesWithBeads(), "n00"), -3);
        Due.is("4: n00/2", Due.game(new BoxesWithBeads(), "n00/2"), -3);
        Due.is("4: n0/2", Due.game(new BoxesWithBeads(), "n0/2"), -2);
        for (char c = 0; c < 256; c++) {
            if (c < '0' || c > '9') {
                Due.is("4: n0 and sign " + (int) c, Due.game(new BoxesWithBeads(), "n0" + c), -2);
            }
        }
    }

    /** All sizes by their digits: 1 to 3 may be, 0 and 4 to 9 may not. */
    private static void gamesBySize() {
        for (int wide = 0; wide <= 9; wide++) {
            for (int high = 0; high <= 9; high++) {
                BoxesWithBeads x = new BoxesWithBeads();
                for (int k = 0; k <= 9; k++) {
                    String told = "g" + wide + "x" + high + "k" + k;
                    int want = wide < 1 || wide > 3 ? -2 : high < 1 || high > 3 ? -4 : k < 1 || k > 3 ? -6 : 0;
                    Due.is("4: " + told, Due.game(x, told), want);
                    Due.is("4: " + told + "m", Due.game(x, told + "m"), want);
                    if (want == 0) {
                        int places = wide * high;
                        int last = 1;
                        for (int i = 1; i < places; i++) {
                            last *= 3;
                        }
                        int first = k == 1 ? 3 : places == 1 ? 4 : 1;
                        Due.is("4: " + told + "m: its last place", x.state(last), first);
                        Due.is("4: " + told + "m: no place behind", x.state(3 * last), -1);
                    }
                }
            }
        }
    }

    /** All HEAPS by one and by two digits, and all TAKES. */
    private static void heapsByNumber() {
        for (int n = 0; n <= 99; n++) {
            BoxesWithBeads x = new BoxesWithBeads();
            String two = "n" + n / 10 + n % 10 + "/1";
            boolean may = n >= 1 && n <= 20;
            Due.is("4: " + two, Due.game(x, two), may ? 0 : -3);
            if (may) {
                Due.is("4: " + two + ": all of it", x.state(2 * n), 0);
                Due.is("4: " + two + ": no more than it", x.state(2 * n + 2), -1);
            }
            if (n < 10) {
                Due.is("4: n" + n + "/1", Due.game(x, "n" + n + "/1"), n == 0 ? -2 : 0);
                Due.is("4: n" + n + "/1: all of it", x.state(2 * n), 0);
            }
        }
        for (int takes = 0; takes <= 9; takes++) {
            BoxesWithBeads x = new BoxesWithBeads();
            boolean may = takes >= 1 && takes <= 3;
            Due.is("4: n9/" + takes, Due.game(x, "n9/" + takes), may ? 0 : -4);
            Due.is("4: n20/" + takes + "m", Due.game(x, "n20/" + takes + "m"), may ? 0 : -5);
            for (int m = -1; m <= 9 && may; m++) {
                Due.is("4: n20/" + takes + "m: move " + m, x.beads(40, m), m >= 0 && m < takes ? -2 : -1);
            }
        }
        Due.is("4: three digits", Due.game(new BoxesWithBeads(), "n012/1"), -4);
        Due.is("4: three digits", Due.game(new BoxesWithBeads(), "n200/1"), -4);
    }

    /** No game has 40 signs, so a long one is at fault where it is. */
    private static void gamesLong() {
        String more = "mmmmmmmmmmmmmmmmmmmmmmmmmmmmmmmmmmmmmmmmmmmmmmmmmmmmm";
        for (int n : new int[] {0, 1, 2, 32, 33, 34, 35, 52, 53}) {
            BoxesWithBeads x = new BoxesWithBeads();
            Due.is("4: a long one of a board", Due.game(x, "g3x3k3" + more.substring(0, n)), n < 2 ? 0 : -8);
            Due.is("4: a long one of a heap", Due.game(x, "n9/2" + more.substring(0, n)), n < 2 ? 0 : -6);
        }
    }

    private static void gamesRefused() {
        String[] bad = {"", "x", "g4x3k3", "g3x3k3mm", "n0/1", "n21/1", "n9/4", "n9", "g3x3k"};
        int[] at = {0, 0, 1, 7, 1, 2, 3, 2, 5};
        for (int i = 0; i < bad.length; i++) {
            String told = bad[i];
            int want = -1 - at[i];
            // THE TEXT alone is changed: it is empty then; what is kept is kept still.
            Whole.becomes("4: '" + told + "' (a heap)", Whole::heap, x -> Due.game(x, told), want, y -> y.end(0) ? 1 : 0);
            Whole.becomes("4: '" + told + "' (a board)", Whole::board, x -> Due.game(x, told), want,
                    y -> y.end(0) ? 1 : 0);
        }
        Whole.becomes("4: what stood there is no game", Whole::heap, x -> x.game(), -1, y -> y.end(0) ? 1 : 0);
    }

    private static void gamesTaken() {
        for (String told : new String[] {"n9/3", "n1/1m", "g3x3k3", "g1x1k1", "n20/3"}) {
            Whole.empties("4: " + told, Whole::heap, x -> Due.game(x, told), 0);
            Whole.empties("4: " + told, Whole::board, x -> Due.game(x, told), 0);
            BoxesWithBeads x = Whole.board();
            Due.game(x, told);
            Due.is("4: THE TEXT is empty then", x.count(15), 0);
            Due.is("4: the SIDE stays", x.count(14), 1);
            x = Whole.board();
            x.likeness(false);
            Due.game(x, told);
            Due.is("4: LIKENESS stays off", x.likeness(true), false);
        }
    }

    // 5: "THE TEXT, which is empty then, is a RULE: its number. -1 - p likewise; -100: there are 8 (asked first)."

    private static void rulesBySign() {
        eachSign(Due::rule, "w+12*;e34", endsAt(9, 3, 4, 5, 8, 9), "wdle", "+-", DIGITS, DIGITS + "*;", "*;", ";",
                "wdle", DIGITS, DIGITS + ";", ";");
        eachSign(Due::rule, "d-0;l+9*", endsAt(8, 3, 7, 8), "wdle", "+-", DIGITS, DIGITS + "*;", "wdle", "+-", DIGITS,
                DIGITS + "*;", ";");
        eachSign(Due::rule, "e5", endsAt(2, 2), "wdle", DIGITS, DIGITS + ";");
        // The first sign tells what may be behind it: e is no w.
        Due.is("5: ew", Due.rule(new BoxesWithBeads(), "e+12*"), -2);
        Due.is("5: w5", Due.rule(new BoxesWithBeads(), "w5"), -2);
        for (int n = 0; n <= 99; n++) {
            BoxesWithBeads x = new BoxesWithBeads();
            String two = "" + n / 10 + n % 10;
            Due.is("5: w+" + two, Due.rule(x, "w+" + two), 0);
            Due.is("5: l-" + two + "*", Due.rule(x, "l-" + two + "*"), 1);
            Due.is("5: e" + two, Due.rule(x, "e" + two), 2);
            Due.is("5: three digits", Due.rule(x, "d+" + two + "0"), -5);
            Due.is("5: three digits", Due.rule(x, "e" + two + "9"), -4);
        }
    }

    /** "texts of at most 40 signs"; "40, if it has more and the first 40 could go on or end". */
    private static void rulesOfForty() {
        String nine = "w+1;w+1;w+1;w+1;w+1;w+1;w+1;w+1;w+1;";
        // 36 signs; what is put behind has 3, 4 or 5 of its own.
        String[] good = {"w+1", "e9", "e99", "d-99", "l+1*"};
        for (String end : good) {
            Due.is("5: " + (36 + end.length()) + " signs", Due.rule(new BoxesWithBeads(), nine + end), 0);
        }
        // The first 40 end, or could go on: any 41st sign is at fault at 40.
        String[] begins = {"d-99", "l+1*", "w+1;", "e5;e", "e5;w", "e99;"};
        for (String begun : begins) {
            for (char c = 0; c < 256; c += 3) {
                Due.is("5: 41 signs, the last is " + (int) c, Due.rule(new BoxesWithBeads(), nine + begun + c), -41);
            }
            for (String more : new String[] {"e", "1", ";", "*", "w+1", "w+1;w+1;w+1;w+1;w+1", "aaaaaaaaaaaaaaaaaaaa"}) {
                Due.is("5: more than 41", Due.rule(new BoxesWithBeads(), nine + begun + more), -41);
            }
        }
        Due.is("5: a digit that would be the second", Due.rule(new BoxesWithBeads(), nine + "e5;e12"), -41);
        // It ends too early with 40 signs: its end is at 40 too.
        Due.is("5: 40 signs, too early", Due.rule(new BoxesWithBeads(), nine + "e5;e"), -41);
        Due.is("5: 40 signs, too early", Due.rule(new BoxesWithBeads(), nine + "w+1;"), -41);
        Due.is("5: 39 signs, too early", Due.rule(new BoxesWithBeads(), nine + "e5;"), -40);
        // The fault is ahead of 40.
        Due.is("5: at 39, no more", Due.rule(new BoxesWithBeads(), nine + "w+1x"), -40);
        Due.is("5: at 39, and more", Due.rule(new BoxesWithBeads(), nine + "w+1xw+1;w+1"), -40);
        Due.is("5: at 38", Due.rule(new BoxesWithBeads(), nine + "w+xxxxx"), -39);
        Due.is("5: at 0 of 60", Due.rule(new BoxesWithBeads(), ";" + nine + nine.substring(0, 23)), -1);
        Due.is("5: 60 signs", Due.rule(new BoxesWithBeads(), nine + nine.substring(0, 24)), -41);
    }

    private static BoxesWithBeads withRules(int n) {
        BoxesWithBeads x = Whole.heap();
        for (int i = x.count(11); i < n; i++) {
            Due.is("5: rule " + i, Due.rule(x, "w+" + i), i);
        }
        Due.text(x, "f2;m7");
        return x;
    }

    private static void rulesOfEight() {
        Due.is("5: the eighth", Due.rule(withRules(7), "w+7"), 7);
        for (String told : new String[] {"w+7", "x", "", "w", "w+1;w+1;w+1;w+1;w+1;w+1;w+1;w+1;w+1;w+1;w+1;w+1;w+1;w+1;w+1"}) {
            Whole.becomes("5: a ninth, '" + told + "'", () -> withRules(8), x -> Due.rule(x, told), -100,
                    y -> y.end(0) ? 1 : 0);
        }
        BoxesWithBeads x = new BoxesWithBeads();
        for (int i = 0; i < 8; i++) {
            Due.rule(x, "w+" + (i + 1));
        }
        x.watch(2, 0, 10, 18);
        Due.is("5: the eighth is as told", x.fits(), 128);
        Due.rule(x, "w+8");
        Due.is("5: the ninth is not there", x.fits(), 128);
        Due.is("5: foes are counted for themselves", Due.foe(x, "f1"), 0);
    }

    private static void rulesRefused() {
        String[] bad = {"", "x", "w", "w+", "w+1x", "w+9;l-9;e9;", "w+1;;", "l-7*;d+7*;w-7*;x"};
        int[] at = {0, 0, 1, 2, 3, 11, 4, 15};
        for (int i = 0; i < bad.length; i++) {
            String told = bad[i];
            Whole.becomes("5: '" + told + "'", Whole::heap, x -> Due.rule(x, told), -1 - at[i], y -> y.end(0) ? 1 : 0);
        }
        // A refused one leaves nothing to the next one.
        BoxesWithBeads x = new BoxesWithBeads();
        Due.is("5: refused", Due.rule(x, "w+9*;d+9*;l+9*;e9;"), -19);
        Due.is("5: the next one", Due.rule(x, "e0"), 0);
        x.watch(2, 3, 5, 5);
        x.watch(1, 3, 5, 5);
        x.watch(0, 3, 5, 5);
        Due.is("5: pays nothing", x.fits(), 1);
    }

    private static void rulesTaken() {
        BoxesWithBeads x = Whole.heap();
        BoxesWithBeads y = Whole.heap();
        Due.is("5: the fourth", Due.rule(x, "d+5"), 3);
        Due.is("5: THE TEXT is empty then", x.count(15), 0);
        Due.is("5: THE RULE stays", x.count(13), y.count(13));
        Due.is("5: so many", x.count(11), 4);
        Due.is("5: the games go on the same", x.run(0, 30), y.run(0, 30));
        for (int what = 0; what <= 10; what++) {
            Due.is("5: count " + what, x.count(what), y.count(what));
        }
    }

    // 6: "THE TEXT, which is empty then, is a FOE: its number. -1 - p likewise; -100: there are 8 (asked first)."

    private static void foesBySign() {
        eachSign(Due::foe, "f1;r08:9;m2", endsAt(11, 2, 8, 11), "fmtr", "123456789", ";", "fmtr", "012345678",
                "12345678:", "1234567:", "123456789", ";", "fmtr", "123456789", ";");
        eachSign(Due::foe, "t9", endsAt(2, 2), "fmtr", "123456789", ";");
        // "one to nine unlike digits 0 .. 8 and :": behind nine of them the : alone.
        eachSign(Due::foe, "r876543210:1", endsAt(12, 12), "fmtr", "012345678", "01234567:", "0123456:", "012345:",
                "01234:", "0123:", "012:", "01:", "0:", ":", "123456789", ";");
        // Its own letter tells what may be behind it: r is no f, f no r.
        Due.is("6: r5", Due.foe(new BoxesWithBeads(), "r5"), -3);
        Due.is("6: f0:1", Due.foe(new BoxesWithBeads(), "f0:1"), -2);
        for (char letter : new char[] {'f', 'm', 't'}) {
            for (int share = 0; share <= 9; share++) {
                Due.is("6: SHARE " + share, Due.foe(new BoxesWithBeads(), "" + letter + share), share == 0 ? -2 : 0);
                Due.is("6: SHARE " + share, Due.foe(new BoxesWithBeads(), "r4:" + share), share == 0 ? -4 : 0);
            }
        }
        // Unlike in one list; another one may have the same.
        Due.is("6: two lists alike", Due.foe(new BoxesWithBeads(), "r01:1;r01:1"), 0);
        Due.is("6: unlike digits, then a like one", Due.foe(new BoxesWithBeads(), "r01:1;r010:1"), -10);
    }

    private static void foesOfForty() {
        String twelve = "f1;f1;f1;f1;f1;f1;f1;f1;f1;f1;f1;f1;";
        // 36 signs.
        Due.is("6: 38 signs", Due.foe(new BoxesWithBeads(), twelve + "m1"), 0);
        Due.is("6: 40 signs", Due.foe(new BoxesWithBeads(), twelve + "r0:1"), 0);
        String[] begins = {"r0:1", "r012", "m1;f", "m1;r", "r01:"};
        for (String begun : begins) {
            Due.is("6: 40 signs, whole or too early", Due.foe(new BoxesWithBeads(), twelve + begun),
                    begun.equals("r0:1") ? 0 : -41);
            for (char c = 0; c < 256; c += 3) {
                Due.is("6: 41 signs, the last is " + (int) c, Due.foe(new BoxesWithBeads(), twelve + begun + c), -41);
            }
            for (String more : new String[] {"1", ";", ":", "0", "9", ";f1", ";f1;f1;f1;f1;f1;f1", "aaaaaaaaaaaaaaaaaaaa"}) {
                Due.is("6: more than 41", Due.foe(new BoxesWithBeads(), twelve + begun + more), -41);
            }
        }
        Due.is("6: 39 signs, too early", Due.foe(new BoxesWithBeads(), twelve + "f1;"), -40);
        Due.is("6: at 39, no more", Due.foe(new BoxesWithBeads(), twelve + "r010"), -40);
        Due.is("6: at 39, and more", Due.foe(new BoxesWithBeads(), twelve + "r0:0;f1"), -40);
        Due.is("6: at 38", Due.foe(new BoxesWithBeads(), twelve + "f1xxxx"), -39);
    }

    private static BoxesWithBeads withFoes(int n) {
        BoxesWithBeads x = Whole.heap();
        for (int i = x.count(12); i < n; i++) {
            Due.is("6: foe " + i, Due.foe(x, "m" + (i + 1)), i);
        }
        Due.text(x, "w+1");
        return x;
    }

    private static void foesOfEight() {
        Due.is("6: the eighth", Due.foe(withFoes(7), "t7"), 7);
        for (String told : new String[] {"t7", "x", "", "r00:1", "f1;f1;f1;f1;f1;f1;f1;f1;f1;f1;f1;f1;f1;f1;f1;f1;f1;f1;f1;f1"}) {
            Whole.becomes("6: a ninth, '" + told + "'", () -> withFoes(8), x -> Due.foe(x, told), -100,
                    y -> y.end(0) ? 1 : 0);
        }
        BoxesWithBeads x = withFoes(8);
        Due.is("6: number 7 is one", x.odds(7), 0);
        Due.is("6: number 8 is none", x.odds(8), -1);
        Due.is("6: rules are counted for themselves", Due.rule(x, "w+1"), 3);
    }

    private static void foesRefused() {
        String[] bad = {"", "x", "f", "f0", "f1;", "r:1", "r00:1", "r9:1", "m1;t1;r8765:1;x"};
        int[] at = {0, 0, 1, 1, 3, 1, 2, 1, 14};
        for (int i = 0; i < bad.length; i++) {
            String told = bad[i];
            Whole.becomes("6: '" + told + "'", Whole::heap, x -> Due.foe(x, told), -1 - at[i], y -> y.end(0) ? 1 : 0);
        }
        // A refused one leaves nothing to the next one.
        Supplier<BoxesWithBeads> made = () -> Due.with("n9/3");
        BoxesWithBeads x = made.get();
        BoxesWithBeads y = made.get();
        Due.is("6: refused", Due.foe(x, "r2:9;t9;f9;r2:0"), -15);
        Due.is("6: the next one", Due.foe(x, "m1"), 0);
        Due.is("6: alone", Due.foe(y, "m1"), 0);
        Due.is("6: shows", x.shows(0), y.shows(0));
        Due.is("6: runs", x.run(0, 50), y.run(0, 50));
        Due.is("6: R", Whole.random(x), Whole.random(y));
        // Nor its SHARES, nor its letters.
        x = made.get();
        y = made.get();
        Due.is("6: refused", Due.foe(x, "r2:9;t9;f9;r2:0"), -15);
        Due.is("6: the next one", Due.foe(x, "t1;f2"), 0);
        Due.is("6: alone", Due.foe(y, "t1;f2"), 0);
        Due.is("6: ODDS", x.odds(0) + y.odds(0), 0);
        Due.same("6: ODDS", Due.rowOf(x), Due.rowOf(y));
        Due.is("6: runs", x.run(0, 50), y.run(0, 50));
        Due.is("6: R", Whole.random(x), Whole.random(y));
        for (String letter : new String[] {"f", "m", "t", "r0:"}) {
            x = made.get();
            Due.is("6: refused", Due.foe(x, letter + "0"), -1 - letter.length());
            Due.is("6: a SHARE alone", Due.foe(x, "1"), -1);
            Due.is("6: refused", Due.foe(x, "f1;" + letter + "0"), -4 - letter.length());
            Due.is("6: a SHARE alone", Due.foe(x, "f1;1"), -4);
        }
    }

    private static void foesTaken() {
        BoxesWithBeads x = Whole.heap();
        BoxesWithBeads y = Whole.heap();
        Due.is("6: the fourth", x.foe(), 3);
        Due.is("6: THE TEXT is empty then", x.count(15), 0);
        Due.is("6: so many", x.count(12), 4);
        Due.is("6: the games go on the same", x.run(1, 30), y.run(1, 30));
        for (int what = 0; what <= 11; what++) {
            Due.is("6: count " + what, x.count(what), y.count(what));
        }
    }
}
