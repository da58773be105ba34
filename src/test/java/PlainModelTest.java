import java.util.ArrayList;
import java.util.Arrays;
import java.util.HashMap;
import java.util.List;
import java.util.Map;
import java.util.NoSuchElementException;
import java.util.Random;
import java.util.TreeMap;
import java.util.TreeSet;

/**
 * Long runs of calls, by chance but always the same, on the class and on a plain model of the document that is
 * written for itself, with maps and copies and no thrift: both must answer alike, and have alike rows and beads.
 */
public final class PlainModelTest {
    private static final int RUNS = 100;

    public static void main(String[] args) {
        int runs = args.length > 0 ? Integer.parseInt(args[0]) : RUNS;
        int first = args.length > 1 ? Integer.parseInt(args[1]) : 1;
        int failed = 0;
        for (int seed = first; seed < first + runs && failed < 5; seed++) {
            String fault = new Run(seed).go();
            if (fault != null) {
                failed++;
                System.out.println("run " + seed + ":\n" + fault);
            }
        }
        Due.is("runs that differ", failed, 0);
        everyPosition();
        Due.close("PlainModelTest");
    }

    /** All POSITIONS, and some that are none, of all heaps and of all boards of up to six places. */
    private static void everyPosition() {
        for (int times = 0; times < 8; times++) {
            boolean likeness = (times & 1) == 0;
            int side = times >> 1 & 1;
            String losing = times < 4 ? "" : "m";
            for (int heap = 1; heap <= 20; heap++) {
                for (int takes = 1; takes <= 3; takes++) {
                    everyPositionOf("n" + heap + "/" + takes + losing, side, likeness, 2 * heap + 3);
                }
            }
            for (int wide = 1; wide <= 3; wide++) {
                for (int high = 1; high <= 3 && wide * high <= 6; high++) {
                    for (int k = 1; k <= 3; k++) {
                        int top = (int) Math.pow(3, wide * high) + 2;
                        everyPositionOf("g" + wide + "x" + high + "k" + k + losing, side, likeness, top);
                    }
                }
            }
        }
    }

    private static void everyPositionOf(String game, int side, boolean likeness, int top) {
        Plain y = new Plain();
        y.sign('f' << 24 | '1' << 16 | ';' << 8 | 'r');
        y.sign('4' << 24 | '2' << 16 | ':' << 8 | '3');
        y.foe();
        y.text = game;
        y.game();
        y.side(side);
        y.likeness(likeness);
        BoxesWithBeads x = null;
        int left = 0;
        for (int p = -2; p <= top; p++) {
            if (left < 40) {
                x = new BoxesWithBeads();
                Due.foe(x, "f1;r42:3");
                Due.game(x, game);
                x.side(side);
                x.likeness(likeness);
                y.likeness(likeness);
                left = 480;
                String of = game + ", SIDE " + side + ", LIKENESS " + likeness;
                Due.is(of + ": boxes()", x.boxes(), y.boxes());
                Due.is(of + ": shows(0)", x.shows(0), y.shows(0));
                Due.is(of + ": odds(0)", x.odds(0), y.odds(0));
                Due.same(of + ": odds(0)", Due.rowOf(x), y.row);
            }
            left -= 2 + aroundOne(x, y, p, game + ", POSITION " + p);
        }
    }

    /** How many calls were spent besides state() and like(). */
    private static int aroundOne(BoxesWithBeads x, Plain y, int p, String what) {
        Due.is(what + ": state()", x.state(p), y.state(p));
        int box = y.like(p);
        Due.is(what + ": like()", x.like(p), box);
        if (box < 0) {
            return 0;
        }
        Due.is(what + ": value()", x.value(p), y.value(p));
        Due.same(what + ": value()", Due.rowOf(x), y.row);
        Due.is(what + ": open()", x.open(p), y.open(p));
        for (int m = -1; m <= 9; m++) {
            Due.is(what + ": beads() of MOVE " + m, x.beads(p, m), y.beads(p, m));
        }
        Due.is(what + ": share()", x.share(p), y.share(p));
        Due.is(what + ": errs()", x.errs(p), y.errs(p));
        return 26;
    }

    /** One run: at most 512 calls on one object. */
    private static final class Run {
        private final Random by;
        private final BoxesWithBeads x = new BoxesWithBeads();
        private final Plain y = new Plain();
        private final List<String> calls = new ArrayList<>();
        private final int size;
        private int left = 512;

        Run(int seed) {
            by = new Random(seed * 7919L);
            size = by.nextInt(3);
        }

        String go() {
            // The dearest step asks for some 60 calls.
            while (left > 90) {
                String call = step();
                if (call != null) {
                    StringBuilder all = new StringBuilder();
                    for (int i = Math.max(0, calls.size() - 60); i < calls.size(); i++) {
                        all.append("  ").append(calls.get(i)).append('\n');
                    }
                    return all.append("  -> ").append(call).toString();
                }
            }
            return null;
        }

        private String hold(String call, long got, long want) {
            left--;
            calls.add(call + " = " + want);
            return got == want ? null : call + " answered " + got + ", due is " + want;
        }

        private String hold(String call, boolean got, boolean want) {
            return hold(call, got ? 1 : 0, want ? 1 : 0);
        }

        private int pick(int... of) {
            return of[by.nextInt(of.length)];
        }

        private int position() {
            List<Integer> known = y.positions();
            return by.nextInt(12) == 0 ? by.nextInt(60) - 5 : known.get(by.nextInt(known.size()));
        }

        private int ownPosition() {
            List<Integer> known = y.ownPositions();
            if (by.nextInt(8) == 0 || known.isEmpty()) {
                return position();
            }
            if (by.nextBoolean() && !y.opened().isEmpty()) {
                List<Integer> opened = y.opened();
                return opened.get(by.nextInt(opened.size()));
            }
            return known.get(by.nextInt(known.size()));
        }

        private int someFoe() {
            return by.nextInt(15) == 0 ? pick(-1, y.foes.size(), 8) : by.nextInt(Math.max(1, y.foes.size()));
        }

        private String step() {
            if (calls.isEmpty() || calls.size() > 20 && by.nextInt(90) == 0) {
                return told("game");
            }
            if (y.foes.size() < 2 && by.nextInt(3) == 0) {
                return told("foe");
            }
            if (y.rules.size() < 1 && by.nextInt(6) == 0) {
                return told("rule");
            }
            switch (by.nextInt(30)) {
                case 0: return told(by.nextInt(4) == 0 ? "foe" : "rule");
                case 1: return told(by.nextInt(3) == 0 ? "rule" : "foe");
                case 2: return setUp();
                case 3: return setUp();
                case 4: {
                    int p = position();
                    return hold("like(" + p + ")", x.like(p), y.like(p));
                }
                case 5: {
                    int p = position();
                    return thenRow(hold("value(" + p + ")", x.value(p), y.value(p)));
                }
                case 6: {
                    int p = position();
                    return hold("state(" + p + ")", x.state(p), y.state(p));
                }
                case 7: return hold("boxes()", x.boxes(), y.boxes());
                case 8: {
                    int f = someFoe();
                    return hold("shows(" + f + ")", x.shows(f), y.shows(f));
                }
                case 9: case 10: {
                    int p = ownPosition();
                    int m = by.nextInt(11) - 1;
                    return hold("beads(" + p + ", " + m + ")", x.beads(p, m), y.beads(p, m));
                }
                case 11: {
                    int p = ownPosition();
                    return hold("open(" + p + ")", x.open(p), y.open(p));
                }
                case 12: {
                    int p = ownPosition();
                    int m = by.nextInt(9);
                    int n = pick(0, 1, 2, 5, 99, 100, 30);
                    return hold("put(" + p + ", " + m + ", " + n + ")", x.put(p, m, n), y.put(p, m, n));
                }
                case 13: {
                    int p = ownPosition();
                    int m = by.nextInt(9);
                    int n = pick(0, 1, 1, 2, 3, 4, 99, 100);
                    return hold("out(" + p + ", " + m + ", " + n + ")", x.out(p, m, n), y.out(p, m, n));
                }
                case 14: {
                    int what = by.nextInt(19) - 1;
                    return hold("count(" + what + ")", x.count(what), y.count(what));
                }
                case 15: case 16: {
                    int f = someFoe();
                    return thenRow(hold("play(" + f + ")", x.play(f), y.play(f)));
                }
                case 17: {
                    int f = someFoe();
                    int n = pick(-1, 0, 1, 3, 10, 40, 200, 201);
                    return thenRow(hold("run(" + f + ", " + n + ")", x.run(f, n), y.run(f, n)));
                }
                case 18: {
                    int f = someFoe();
                    int n = pick(-1, 0, 1, 2, 5, 12, 101);
                    return thenRow(hold("come(" + f + ", " + n + ")", x.come(f, n), y.come(f, n)));
                }
                case 19: {
                    int f = someFoe();
                    return thenRow(hold("odds(" + f + ")", x.odds(f), y.odds(f)));
                }
                case 20: {
                    int f = someFoe();
                    int n = pick(-1, 0, 1, 1, 2, 3, 4);
                    return thenRow(hold("ways(" + f + ", " + n + ")", x.ways(f, n), y.ways(f, n)));
                }
                case 21: return thenRow(hold("knows()", x.knows(), y.knows()));
                case 22: {
                    int p = ownPosition();
                    return hold("share(" + p + ")", x.share(p), y.share(p));
                }
                case 23: {
                    int p = ownPosition();
                    return hold("errs(" + p + ")", x.errs(p), y.errs(p));
                }
                case 24: {
                    int foes = by.nextInt(3) == 0 ? by.nextInt(300) - 3 : 1 << someFoe() % 8 & 255 | 1 << by.nextInt(2);
                    int n = pick(-1, 0, 1, 3, 8, 51);
                    int t = someFoe();
                    return thenRow(hold("teach(" + foes + ", " + n + ", " + t + ")", x.teach(foes, n, t),
                            y.teach(foes, n, t)));
                }
                case 25: {
                    int f = someFoe();
                    int n = pick(0, 1, 2, 4, 9, 20, 51);
                    return thenRow(hold("few(" + f + ", " + n + ")", x.few(f, n), y.few(f, n)));
                }
                case 26: return kept();
                case 27: return kept();
                case 28: return watched();
                default: return everything();
            }
        }

        private String thenRow(String fault) {
            return fault != null ? fault : row();
        }

        private String row() {
            List<Long> got = new ArrayList<>();
            int many = x.count(16);
            left -= 1 + many;
            for (int i = 0; i < many; i++) {
                got.add(x.row(i));
            }
            return got.equals(y.row) ? null : calls.get(calls.size() - 1) + ": row " + got + ", due is " + y.row;
        }

        /** Looks at all counts and at some beads. */
        private String everything() {
            left -= 19;
            calls.add("(everything)");
            for (int what = 0; what <= 16; what++) {
                if (x.count(what) != y.count(what)) {
                    return "count(" + what + ") answered " + x.count(what) + ", due is " + y.count(what);
                }
            }
            List<Integer> own = y.ownPositions();
            for (int i = 0; i < 40 && !own.isEmpty(); i++) {
                int p = own.get(by.nextInt(own.size()));
                int m = by.nextInt(9);
                left--;
                if (x.beads(p, m) != y.beads(p, m)) {
                    return "beads(" + p + ", " + m + ") answered " + x.beads(p, m) + ", due is " + y.beads(p, m);
                }
            }
            int seed = y.seed(5);
            if (x.seed(seed) != seed) {
                return "R differs";
            }
            y.seed(seed);
            return row();
        }

        private String told(String kind) {
            String text = kind.equals("game") ? gameText() : kind.equals("rule") ? ruleText() : foeText();
            if (by.nextInt(6) == 0) {
                text = bent(text);
            }
            String fault = hold("end(0)", x.end(0), y.end(0));
            for (int i = 0; i < text.length() && fault == null; i += 4) {
                int v = 0;
                for (int j = i; j < i + 4; j++) {
                    v = v << 8 | (j < text.length() ? text.charAt(j) : by.nextInt(256));
                }
                fault = hold("sign(" + v + ")", x.sign(v), y.sign(v));
            }
            if (fault == null) {
                fault = hold("end(" + text.length() + ")", x.end(text.length()), y.end(text.length()));
            }
            if (fault != null) {
                return fault;
            }
            if (kind.equals("game")) {
                return hold("game() " + text, x.game(), y.game());
            }
            return kind.equals("rule") ? hold("rule() " + text, x.rule(), y.rule())
                    : hold("foe() " + text, x.foe(), y.foe());
        }

        private String bent(String text) {
            String signs = "gnxk/m123456789wdl+-*;eftr:0@";
            int at = by.nextInt(text.length() + 1);
            switch (by.nextInt(4)) {
                case 0: return text.substring(0, at);
                case 1: return text.substring(0, at) + signs.charAt(by.nextInt(signs.length())) + text.substring(at);
                case 2: return text + ";" + text;
                default:
                    return at < text.length() ? text.substring(0, at) + signs.charAt(by.nextInt(signs.length()))
                            + text.substring(at + 1) : text + "m";
            }
        }

        private String gameText() {
            String losing = by.nextInt(3) == 0 ? "m" : "";
            if (by.nextInt(3) == 0) {
                int heap = 1 + by.nextInt(size == 0 ? 9 : 20);
                return "n" + (heap < 10 && by.nextInt(5) == 0 ? "0" : "") + heap + "/" + (1 + by.nextInt(3)) + losing;
            }
            int wide = 1 + by.nextInt(3);
            int high = 1 + by.nextInt(3);
            if (size < 2 && wide * high > 6) {
                wide = 2;
            }
            return "g" + wide + "x" + high + "k" + (1 + by.nextInt(3)) + losing;
        }

        private String ruleText() {
            StringBuilder text = new StringBuilder();
            int lines = 1 + by.nextInt(4);
            for (int i = 0; i < lines; i++) {
                text.append(i > 0 ? ";" : "");
                int n = by.nextInt(5) == 0 ? by.nextInt(100) : by.nextInt(4);
                if (by.nextInt(4) == 0) {
                    text.append('e').append(n);
                } else {
                    text.append("wdl".charAt(by.nextInt(3))).append("+-".charAt(by.nextInt(2))).append(n);
                    text.append(by.nextInt(3) == 0 ? "*" : "");
                }
            }
            return text.toString();
        }

        private String foeText() {
            StringBuilder text = new StringBuilder();
            int parts = by.nextInt(3) == 0 ? 1 + by.nextInt(4) : 1;
            for (int i = 0; i < parts; i++) {
                text.append(i > 0 ? ";" : "");
                char kind = "fmtr".charAt(by.nextInt(4));
                text.append(kind);
                if (kind == 'r') {
                    StringBuilder digits = new StringBuilder("012345678");
                    int wishes = 1 + by.nextInt(by.nextInt(3) == 0 ? 9 : 3);
                    for (int w = 0; w < wishes; w++) {
                        int at = by.nextInt(digits.length());
                        text.append(digits.charAt(at));
                        digits.deleteCharAt(at);
                    }
                    text.append(':');
                }
                text.append(1 + by.nextInt(9));
            }
            return text.toString();
        }

        private String setUp() {
            switch (by.nextInt(14)) {
                case 0: {
                    int v = pick(0, 1, 1, 2, -1);
                    return hold("side(" + v + ")", x.side(v), y.side(v));
                }
                case 1: {
                    boolean on = by.nextInt(3) > 0;
                    return hold("likeness(" + on + ")", x.likeness(on), y.likeness(on));
                }
                case 2: case 3: case 4: {
                    int s = by.nextInt(9) == 0 ? pick(-1, 20, 21) : by.nextInt(10);
                    int v = by.nextInt(9) == 0 ? pick(-1, 20, 21) : by.nextInt(4);
                    return hold("fresh(" + s + ", " + v + ")", x.fresh(s, v), y.fresh(s, v));
                }
                case 5: case 6: {
                    int kind = by.nextInt(6) - 1;
                    int n = pick(-1, 0, 3, 10, 21, 22);
                    int f = pick(0, 1, 2, 300, -5, 65540, 4, Integer.MAX_VALUE);
                    int step = pick(0, 0, 1, -1, 100, 40000, Integer.MAX_VALUE);
                    return hold("sheet(" + kind + ", " + n + ", " + f + ", " + step + ")", x.sheet(kind, n, f, step),
                            y.sheet(kind, n, f, step));
                }
                case 7: case 8: case 9: case 10: case 11: {
                    int r = by.nextInt(y.rules.size() + 2) - (by.nextInt(6) == 0 ? 2 : 0);
                    return hold("pay(" + r + ")", x.pay(r), y.pay(r));
                }
                default: {
                    int v = by.nextInt();
                    return hold("seed(" + v + ")", x.seed(v), y.seed(v));
                }
            }
        }

        private String kept() {
            int i = by.nextInt(8) == 0 ? pick(-1, 3) : by.nextInt(3);
            switch (by.nextInt(3)) {
                case 0: return hold("keep(" + i + ")", x.keep(i), y.keep(i));
                case 1: return hold("again(" + i + ")", x.again(i), y.again(i));
                default: return hold("join(" + i + ")", x.join(i), y.join(i));
            }
        }

        private String watched() {
            switch (by.nextInt(4)) {
                case 0: {
                    int end = by.nextInt(9) == 0 ? pick(-1, 3) : by.nextInt(3);
                    int ahead = by.nextInt(9) == 0 ? pick(-1, 10) : by.nextInt(3);
                    int before = by.nextInt(9) == 0 ? pick(-1, 100) : by.nextInt(20);
                    int behind = by.nextInt(9) == 0 ? pick(-1, 1000) : Math.max(0, before + by.nextInt(5) - 2);
                    if (!y.rules.isEmpty() && before >= 0 && by.nextInt(4) > 0 && end >= 0 && end < 3) {
                        behind = y.leaves(y.rules.get(by.nextInt(y.rules.size())), end, ahead, before);
                    }
                    return hold("watch(" + end + ", " + ahead + ", " + before + ", " + behind + ")",
                            x.watch(end, ahead, before, behind), y.watch(end, ahead, before, behind));
                }
                case 1: return hold("fits()", x.fits(), y.fits());
                default: return thenRow(hold("part()", x.part(), y.part()));
            }
        }
    }

    /** The document once more, in its plainest form. */
    private static final class Plain {
        private String text = "";
        private int wide = 3;
        private int high = 3;
        private int inRow = 3;
        private int heap = 0;
        private int takes = 0;
        private boolean losing = false;
        private int side = 0;
        private boolean likeness = true;
        private int[] fresh = new int[21];
        private final List<String> rules = new ArrayList<>();
        private int rule = -1;
        private final List<String> foes = new ArrayList<>();
        private Chest chest = new Chest();
        private final Chest[] kept = new Chest[3];
        private final int[] ends = new int[4];
        private final List<int[]> seen = new ArrayList<>();
        private List<Long> row = new ArrayList<>();
        private Map<Integer, Integer> states = null;
        private Map<Integer, Integer> values = new HashMap<>();

        Plain() {
            Arrays.fill(fresh, 4);
        }

        static final class Chest {
            TreeMap<Integer, int[]> boxes = new TreeMap<>();
            int bag = 10000;
            int spent = 0;
            int r = 1;

            Chest copy() {
                Chest c = new Chest();
                for (Map.Entry<Integer, int[]> e : boxes.entrySet()) {
                    c.boxes.put(e.getKey(), e.getValue().clone());
                }
                c.bag = bag;
                c.spent = spent;
                c.r = r;
                return c;
            }

            int inBoxes() {
                int all = 0;
                for (int[] b : boxes.values()) {
                    for (int n : b) {
                        all += n;
                    }
                }
                return all;
            }

            void empty() {
                bag += inBoxes();
                boxes.clear();
            }

            int draw(int n) {
                r = r * 1103515245 + 12345;
                return (int) ((r & 0xffffffffL) / 65536) % n;
            }
        }

        // texts

        int sign(int v) {
            if (text.length() + 4 > 60) {
                return -1;
            }
            text += "" + (char) (v >> 24 & 255) + (char) (v >> 16 & 255) + (char) (v >> 8 & 255) + (char) (v & 255);
            return text.length();
        }

        boolean end(int n) {
            if (n < 0 || n > text.length()) {
                return false;
            }
            text = text.substring(0, n);
            return true;
        }

        /** The first place that can't go on, for texts told by all that may stand there; -1 if it is one. */
        private int fault(String whole, String kind) {
            for (int n = 0; n <= Math.min(40, whole.length()); n++) {
                String begun = whole.substring(0, n);
                if (n == whole.length()) {
                    return whole(begun, kind) ? -1 : heapOfNone(begun, kind) ? n - 1 : n;
                }
                if (n < 40 && !begins(whole.substring(0, n + 1), kind)) {
                    return heapOfNone(begun, kind) ? n - 1 : n;
                }
            }
            return 40;
        }

        private boolean heapOfNone(String begun, String kind) {
            return kind.equals("game") && begun.matches("n00?");
        }

        private boolean whole(String told, String kind) {
            if (kind.equals("game")) {
                return told.matches("g[123]x[123]k[123]m?|n(0?[1-9]|1[0-9]|20)/[123]m?");
            }
            if (kind.equals("rule")) {
                return told.matches("([wdl][+-][0-9][0-9]?[*]?|e[0-9][0-9]?)(;([wdl][+-][0-9][0-9]?[*]?|e[0-9][0-9]?))*");
            }
            return told.matches("([fmt]|r[0-8]{1,9}:)[1-9](;([fmt]|r[0-8]{1,9}:)[1-9])*") && unlike(told);
        }

        private boolean unlike(String told) {
            for (String part : told.split(";")) {
                if (part.startsWith("r")) {
                    String digits = part.indexOf(':') < 0 ? part.substring(1) : part.substring(1, part.indexOf(':'));
                    for (int i = 0; i < digits.length(); i++) {
                        if (digits.indexOf(digits.charAt(i)) != i) {
                            return false;
                        }
                    }
                }
            }
            return true;
        }

        /** Whether something can be put behind so that it is whole. */
        private boolean begins(String told, String kind) {
            String[] more;
            if (kind.equals("game")) {
                more = new String[] {"", "1x1k1", "x1k1", "1k1", "k1", "1", "1/1", "/1"};
            } else if (kind.equals("rule")) {
                more = new String[] {"", "+1", "1", "e1"};
            } else {
                more = new String[] {"", "1", "f1", ":1", "0:1", "1:1"};
            }
            for (String m : more) {
                if (whole(told + m, kind)) {
                    return true;
                }
            }
            return false;
        }

        int game() {
            String told = text;
            text = "";
            int p = fault(told, "game");
            if (p >= 0) {
                return -1 - p;
            }
            heap = 0;
            losing = told.endsWith("m");
            if (told.startsWith("g")) {
                wide = told.charAt(1) - '0';
                high = told.charAt(3) - '0';
                inRow = told.charAt(5) - '0';
            } else {
                heap = Integer.parseInt(told.substring(1, told.indexOf('/')));
                takes = told.charAt(told.indexOf('/') + 1) - '0';
            }
            states = null;
            values.clear();
            emptied();
            return 0;
        }

        private void emptied() {
            chest.empty();
            Arrays.fill(kept, null);
        }

        int rule() {
            String told = text;
            text = "";
            if (rules.size() == 8) {
                return -100;
            }
            int p = fault(told, "rule");
            if (p >= 0) {
                return -1 - p;
            }
            rules.add(told);
            return rules.size() - 1;
        }

        int foe() {
            String told = text;
            text = "";
            if (foes.size() == 8) {
                return -100;
            }
            int p = fault(told, "foe");
            if (p >= 0) {
                return -1 - p;
            }
            foes.add(told);
            return foes.size() - 1;
        }

        // set up

        int side(int v) {
            if (v != 0 && v != 1) {
                return -1;
            }
            int was = side;
            side = v;
            emptied();
            return was;
        }

        boolean likeness(boolean on) {
            boolean was = likeness;
            likeness = on;
            emptied();
            return was;
        }

        int fresh(int s, int v) {
            if (s < 0 || s > 20 || v < 0 || v > 20) {
                return -1;
            }
            int was = fresh[s];
            fresh[s] = v;
            return was;
        }

        int sheet(int kind, int n, int f, int step) {
            if (kind < 0 || kind > 3 || n > 21) {
                return -1;
            }
            if (kind != 3 && n < 0) {
                return -2;
            }
            Arrays.fill(fresh, 0);
            if (kind == 3) {
                return -3;
            }
            int sum = 0;
            int v = f;
            for (int s = 0; s < n; s++) {
                long as = kind == 0 ? (byte) v : kind == 1 ? (short) v : v;
                fresh[s] = as < 0 ? 0 : as > 20 ? 20 : (int) as;
                sum += fresh[s];
                v += step;
            }
            return sum;
        }

        int pay(int r) {
            if (r != -1 && (r < 0 || r >= rules.size())) {
                return -2;
            }
            int was = rule;
            rule = r;
            return was;
        }

        int seed(int v) {
            int was = chest.r;
            chest.r = v;
            return was;
        }

        // positions

        private int start() {
            return 2 * heap;
        }

        private int[] board(int p) {
            int[] b = new int[wide * high];
            for (int i = 0; i < b.length; i++) {
                b[i] = p % 3;
                p /= 3;
            }
            return b;
        }

        private int number(int[] b) {
            int p = 0;
            for (int i = b.length - 1; i >= 0; i--) {
                p = 3 * p + b[i];
            }
            return p;
        }

        private int mover(int p) {
            if (heap > 0) {
                return p % 2;
            }
            int stones = 0;
            for (int s : board(p)) {
                stones += s > 0 ? 1 : 0;
            }
            return stones % 2;
        }

        private boolean rowOf(int[] b, int stone) {
            int[][] ways = {{1, 0}, {0, 1}, {1, 1}, {-1, 1}};
            for (int y = 0; y < high; y++) {
                for (int x = 0; x < wide; x++) {
                    for (int[] d : ways) {
                        int n = 0;
                        int i = x;
                        int j = y;
                        while (i >= 0 && i < wide && j < high && b[j * wide + i] == stone) {
                            n++;
                            i += d[0];
                            j += d[1];
                        }
                        if (n >= inRow) {
                            return true;
                        }
                    }
                }
            }
            return false;
        }

        private int stateFrom(int p) {
            int mover = mover(p);
            if (heap > 0) {
                return p >= 2 ? mover : 2 + (losing ? mover : 1 - mover);
            }
            int[] b = board(p);
            for (int s = 0; s < 2; s++) {
                if (rowOf(b, s + 1)) {
                    return 2 + (losing ? 1 - s : s);
                }
            }
            for (int v : b) {
                if (v == 0) {
                    return mover;
                }
            }
            return 4;
        }

        private Map<Integer, Integer> states() {
            if (states == null) {
                states = new TreeMap<>();
                find(start());
            }
            return states;
        }

        private void find(int p) {
            if (states.containsKey(p)) {
                return;
            }
            states.put(p, stateFrom(p));
            for (int m : moves(p)) {
                find(after(p, m));
            }
        }

        private boolean goesOn(int p) {
            return states().containsKey(p) && states().get(p) < 2;
        }

        private boolean own(int p) {
            return goesOn(p) && states().get(p) == side;
        }

        List<Integer> positions() {
            return new ArrayList<>(states().keySet());
        }

        List<Integer> ownPositions() {
            List<Integer> all = new ArrayList<>();
            for (int p : states().keySet()) {
                if (own(p)) {
                    all.add(p);
                }
            }
            return all;
        }

        List<Integer> opened() {
            return new ArrayList<>(chest.boxes.keySet());
        }

        private List<Integer> moves(int p) {
            List<Integer> all = new ArrayList<>();
            if (states().containsKey(p) && states().get(p) > 1) {
                return all;
            }
            if (heap > 0) {
                for (int m = 0; m < Math.min(takes, p / 2); m++) {
                    all.add(m);
                }
                return all;
            }
            int[] b = board(p);
            for (int m = 0; m < b.length; m++) {
                if (b[m] == 0) {
                    all.add(m);
                }
            }
            return all;
        }

        private int after(int p, int m) {
            int mover = mover(p);
            if (heap > 0) {
                return 2 * (p / 2 - (m + 1)) + (1 - mover);
            }
            int[] b = board(p);
            b[m] = mover + 1;
            return number(b);
        }

        private int worth(int p) {
            int now = states().get(p);
            if (now == 4) {
                return 1;
            }
            if (now > 1) {
                return now - 2 == mover(p) ? 2 : 0;
            }
            Integer known = values.get(p);
            if (known == null) {
                int most = 0;
                for (int m : moves(p)) {
                    most = Math.max(most, 2 - worth(after(p, m)));
                }
                known = most;
                values.put(p, known);
            }
            return known;
        }

        private List<Integer> best(int p) {
            List<Integer> all = new ArrayList<>();
            for (int m : moves(p)) {
                if (2 - worth(after(p, m)) == worth(p)) {
                    all.add(m);
                }
            }
            return all;
        }

        private int worst(int p) {
            int found = -1;
            int least = 3;
            for (int m : moves(p)) {
                if (2 - worth(after(p, m)) < least) {
                    least = 2 - worth(after(p, m));
                    found = m;
                }
            }
            return found;
        }

        private int turns() {
            return !likeness || heap > 0 ? 1 : wide == high ? 8 : 4;
        }

        private int led(int t, int place) {
            if (heap > 0) {
                return place;
            }
            int x = place % wide;
            int y = place / wide;
            int[][] to = {
                {x, y}, {wide - 1 - x, y}, {x, high - 1 - y}, {wide - 1 - x, high - 1 - y},
                {y, x}, {high - 1 - y, x}, {y, wide - 1 - x}, {high - 1 - y, wide - 1 - x},
            };
            return to[t][1] * wide + to[t][0];
        }

        private int image(int t, int p) {
            if (heap > 0) {
                return p;
            }
            int[] b = board(p);
            int[] c = new int[b.length];
            for (int m = 0; m < b.length; m++) {
                c[led(t, m)] = b[m];
            }
            return number(c);
        }

        private int box(int p) {
            int least = p;
            for (int t = 0; t < turns(); t++) {
                least = Math.min(least, image(t, p));
            }
            return least;
        }

        private int kind(int box, int m) {
            int least = m;
            for (int t = 0; t < turns(); t++) {
                if (image(t, box) == box) {
                    least = Math.min(least, led(t, m));
                }
            }
            return least;
        }

        private int turnTo(int p) {
            for (int t = 0; t < turns(); t++) {
                if (image(t, p) == box(p)) {
                    return t;
                }
            }
            return 0;
        }

        private int kindAt(int p, int m) {
            return kind(box(p), led(turnTo(p), m));
        }

        private int backAt(int p, int kind) {
            for (int m : moves(p)) {
                if (led(turnTo(p), m) == kind) {
                    return m;
                }
            }
            return -1;
        }

        private List<Integer> kinds(int box) {
            List<Integer> all = new ArrayList<>();
            for (int m : moves(box)) {
                if (kind(box, m) == m) {
                    all.add(m);
                }
            }
            return all;
        }

        private int stones(int p) {
            if (heap > 0) {
                return heap - p / 2;
            }
            return wide * high - moves(p).size();
        }

        int like(int p) {
            return goesOn(p) ? box(p) : -1;
        }

        int value(int p) {
            if (!goesOn(p)) {
                return -1;
            }
            row = new ArrayList<>();
            for (int m : best(p)) {
                row.add((long) m);
            }
            return worth(p);
        }

        int state(int p) {
            return states().containsKey(p) ? states().get(p) : -1;
        }

        int boxes() {
            TreeSet<Integer> all = new TreeSet<>();
            for (int p : ownPositions()) {
                all.add(box(p));
            }
            return all.size();
        }

        int shows(int f) {
            if (f < 0 || f >= foes.size()) {
                return -1;
            }
            TreeSet<Integer> seen = new TreeSet<>();
            TreeSet<Integer> shown = new TreeSet<>();
            List<Integer> open = new ArrayList<>(List.of(start()));
            while (!open.isEmpty()) {
                int p = open.remove(open.size() - 1);
                if (!seen.add(p) || !goesOn(p)) {
                    continue;
                }
                if (own(p)) {
                    shown.add(box(p));
                }
                for (int m : moves(p)) {
                    boolean may = own(p);
                    for (String part : foes.get(f).split(";")) {
                        may |= part.startsWith("f") || answer(part, p) == m;
                    }
                    if (may) {
                        open.add(after(p, m));
                    }
                }
            }
            return shown.size();
        }

        /** The MOVE of a part of a FOE; -1 of a fool. */
        private int answer(String part, int p) {
            switch (part.charAt(0)) {
                case 'm': return best(p).get(0);
                case 't': return worst(p);
                case 'r':
                    for (int i = 1; part.charAt(i) != ':'; i++) {
                        if (moves(p).contains(part.charAt(i) - '0')) {
                            return part.charAt(i) - '0';
                        }
                    }
                    return moves(p).get(0);
                default: return -1;
            }
        }

        private int share(String part) {
            return part.charAt(part.length() - 1) - '0';
        }

        private int shares(String[] parts) {
            int all = 0;
            for (String part : parts) {
                all += share(part);
            }
            return all;
        }

        // beads

        int beads(int p, int m) {
            if (!own(p) || !moves(p).contains(m)) {
                return -1;
            }
            int[] b = chest.boxes.get(box(p));
            return b == null ? -2 : b[kindAt(p, m)];
        }

        private int fillBox(Chest c, int p, int each) {
            int[] b = c.boxes.computeIfAbsent(box(p), k -> new int[9]);
            int came = 0;
            for (int k : kinds(box(p))) {
                int n = Math.min(each, c.bag);
                b[k] += n;
                c.bag -= n;
                came += n;
            }
            return came;
        }

        int open(int p) {
            if (!own(p) || chest.boxes.containsKey(box(p))) {
                return -1;
            }
            return fillBox(chest, p, fresh[stones(p)]);
        }

        int put(int p, int m, int n) {
            if (beads(p, m) < 0 || n < 1 || n > 99 || n > chest.bag) {
                return -1;
            }
            chest.bag -= n;
            return chest.boxes.get(box(p))[kindAt(p, m)] += n;
        }

        int out(int p, int m, int n) {
            if (beads(p, m) < 0 || n < 1 || n > 99 || n > beads(p, m)) {
                return -1;
            }
            chest.bag += n;
            return chest.boxes.get(box(p))[kindAt(p, m)] -= n;
        }

        int count(int what) {
            int empty = 0;
            int one = 0;
            for (int[] b : chest.boxes.values()) {
                int kinds = 0;
                for (int n : b) {
                    kinds += n > 0 ? 1 : 0;
                }
                empty += kinds == 0 ? 1 : 0;
                one += kinds == 1 ? 1 : 0;
            }
            int[] all = {
                chest.inBoxes(), chest.bag, chest.spent, chest.boxes.size(), empty, one,
                ends[0] + ends[1] + ends[2] + ends[3], ends[2], ends[1], ends[0] + ends[3], ends[3],
                rules.size(), foes.size(), rule, side, text.length(), row.size(),
            };
            return what < 0 || what >= all.length ? -1 : all[what];
        }

        // games

        /** How a game went: its MOVES, and the drawn ones of THE CHEST as position and kind. */
        private static final class Went {
            final List<Long> moves = new ArrayList<>();
            final List<int[]> drawn = new ArrayList<>();
            int stuck = -1;
            int end;

            Went copy() {
                Went w = new Went();
                w.moves.addAll(moves);
                w.drawn.addAll(drawn);
                return w;
            }
        }

        private Went playOn(Chest c, String foe, int[] freshNow) {
            Went went = new Went();
            int p = start();
            while (goesOn(p)) {
                int m;
                if (own(p)) {
                    if (!c.boxes.containsKey(box(p))) {
                        fillBox(c, p, freshNow[stones(p)]);
                    }
                    List<Integer> all = beadsIn(c.boxes.get(box(p)));
                    if (all.isEmpty()) {
                        went.stuck = p;
                        break;
                    }
                    int k = all.get(c.draw(all.size()));
                    went.drawn.add(new int[] {p, k});
                    m = backAt(p, k);
                } else {
                    String[] parts = foe.split(";");
                    String part = parts[0];
                    if (parts.length > 1) {
                        List<String> all = new ArrayList<>();
                        for (String s : parts) {
                            for (int i = 0; i < share(s); i++) {
                                all.add(s);
                            }
                        }
                        part = all.get(c.draw(all.size()));
                    }
                    m = part.startsWith("f") ? moves(p).get(c.draw(moves(p).size())) : answer(part, p);
                }
                went.moves.add((long) m);
                p = after(p, m);
            }
            settle(c, went, p);
            return went;
        }

        private void settle(Chest c, Went went, int p) {
            went.end = went.stuck >= 0 ? 0 : states().get(p) == 4 ? 1 : states().get(p) - 2 == side ? 2 : 0;
            if (rule >= 0) {
                pays(c, rules.get(rule), went);
            }
            if (went.stuck >= 0) {
                went.end = 3;
            }
        }

        private List<Integer> beadsIn(int[] b) {
            List<Integer> all = new ArrayList<>();
            for (int k = 0; k < b.length; k++) {
                for (int n = 0; n < b[k]; n++) {
                    all.add(k);
                }
            }
            return all;
        }

        private void pays(Chest c, String r, Went went) {
            List<Integer> met = new ArrayList<>();
            for (int i = 0; i < went.drawn.size(); i++) {
                int p = went.drawn.get(i)[0];
                int k = went.drawn.get(i)[1];
                int n = amount(r, went.end, i);
                int[] b = c.boxes.get(box(p));
                if (n > 0) {
                    int come = Math.min(n, c.bag);
                    c.bag -= come;
                    b[k] += come;
                } else {
                    int go = Math.min(-n, b[k]);
                    c.spent += go;
                    b[k] -= go;
                }
                met.add(p);
            }
            if (went.stuck >= 0) {
                met.add(went.stuck);
            }
            int again = 0;
            for (String line : r.split(";")) {
                if (line.startsWith("e")) {
                    again = Integer.parseInt(line.substring(1));
                }
            }
            for (int p : met) {
                if (beadsIn(c.boxes.get(box(p))).isEmpty()) {
                    fillBox(c, p, again);
                }
            }
        }

        private int amount(String r, int end, int ahead) {
            int n = 0;
            for (String line : r.split(";")) {
                if (line.charAt(0) == "ldw".charAt(end)) {
                    boolean times = line.endsWith("*");
                    int told = Integer.parseInt(line.substring(2, line.length() - (times ? 1 : 0)));
                    n = (line.charAt(1) == '-' ? -told : told) * (times ? ahead + 1 : 1);
                }
            }
            return n;
        }

        int leaves(String r, int end, int ahead, int before) {
            return Math.max(0, before + amount(r, end, ahead));
        }

        private boolean none(int f) {
            return f < 0 || f >= foes.size();
        }

        int play(int f) {
            if (none(f)) {
                return -1;
            }
            Went went = playOn(chest, foes.get(f), fresh);
            ends[went.end]++;
            row = went.moves;
            return went.end;
        }

        int run(int f, int n) {
            if (none(f) || n < 0 || n > 200) {
                return -1;
            }
            long[] now = new long[4];
            for (int i = 0; i < n; i++) {
                int end = playOn(chest, foes.get(f), fresh).end;
                ends[end]++;
                now[end]++;
            }
            row = new ArrayList<>(List.of(now[1], now[0] + now[3], now[3]));
            return (int) now[2];
        }

        int come(int f, int n) {
            if (none(f) || n < 0 || n > 100) {
                return -1;
            }
            for (int i = 0; i < n; i++) {
                if (oddsOf(chest, foes.get(f))[0] == 0) {
                    return i;
                }
                ends[playOn(chest, foes.get(f), fresh).end]++;
            }
            return oddsOf(chest, foes.get(f))[0] == 0 ? n : -2;
        }

        private long[] oddsOf(Chest c, String foe) {
            return oddsAt(c, foe.split(";"), start(), new HashMap<>());
        }

        private long[] oddsAt(Chest c, String[] parts, int p, Map<Integer, long[]> known) {
            if (known.containsKey(p)) {
                return known.get(p);
            }
            long[] odds = new long[3];
            if (!goesOn(p)) {
                int now = states().get(p);
                odds[now == 4 ? 1 : now - 2 == side ? 2 : 0] = 1000000000L;
            } else if (own(p)) {
                int[] b = c.boxes.get(box(p));
                long all = 0;
                for (int k : kinds(box(p))) {
                    long n = b == null ? fresh[stones(p)] : b[k];
                    if (n > 0) {
                        add(odds, oddsAt(c, parts, after(p, backAt(p, k)), known), n);
                        all += n;
                    }
                }
                if (all == 0) {
                    odds[0] = 1000000000L;
                } else {
                    cut(odds, all);
                }
            } else {
                for (String part : parts) {
                    long[] of = new long[3];
                    if (part.startsWith("f")) {
                        for (int m : moves(p)) {
                            add(of, oddsAt(c, parts, after(p, m), known), 1);
                        }
                        cut(of, moves(p).size());
                    } else {
                        add(of, oddsAt(c, parts, after(p, answer(part, p)), known), 1);
                    }
                    add(odds, of, share(part));
                }
                cut(odds, shares(parts));
            }
            known.put(p, odds);
            return odds;
        }

        private void add(long[] to, long[] of, long times) {
            for (int e = 0; e < 3; e++) {
                to[e] += of[e] * times;
            }
        }

        private void cut(long[] odds, long by) {
            for (int e = 0; e < 3; e++) {
                odds[e] /= by;
            }
        }

        int odds(int f) {
            if (none(f)) {
                return -1;
            }
            long[] odds = oddsOf(chest, foes.get(f));
            row = new ArrayList<>(List.of(odds[2], odds[1], odds[0]));
            return 0;
        }

        int ways(int f, int n) {
            if (none(f) || n < 0 || n > 3) {
                return -1;
            }
            long[] sums = {0, 0, 0, 0, 10000};
            branch(chest.copy(), foes.get(f).split(";"), n, 1000000000L, sums);
            if (sums[0] > 3000) {
                return -3;
            }
            row = new ArrayList<>();
            for (long s : sums) {
                row.add(s);
            }
            return 0;
        }

        private void branch(Chest c, String[] parts, int games, long chance, long[] sums) {
            if (games == 0) {
                sums[0]++;
                sums[1] += chance;
                sums[2] += chance * c.inBoxes();
                sums[3] = Math.max(sums[3], c.inBoxes());
                sums[4] = Math.min(sums[4], c.inBoxes());
                return;
            }
            branchAt(c, parts, games, chance, sums, start(), new Went());
        }

        private void branchAt(Chest c, String[] parts, int games, long chance, long[] sums, int p, Went went) {
            if (sums[0] > 3000) {
                return;
            }
            if (!goesOn(p)) {
                Chest paid = c.copy();
                settle(paid, went, p);
                branch(paid, parts, games - 1, chance, sums);
                return;
            }
            if (!own(p)) {
                for (String part : parts) {
                    long now = parts.length > 1 ? chance * share(part) / shares(parts) : chance;
                    if (part.startsWith("f")) {
                        for (int m : moves(p)) {
                            branchAt(c, parts, games, now / moves(p).size(), sums, after(p, m), went.copy());
                        }
                    } else {
                        branchAt(c, parts, games, now, sums, after(p, answer(part, p)), went.copy());
                    }
                }
                return;
            }
            Chest opened = c.copy();
            if (!opened.boxes.containsKey(box(p))) {
                fillBox(opened, p, fresh[stones(p)]);
            }
            int[] b = opened.boxes.get(box(p));
            int all = beadsIn(b).size();
            if (all == 0) {
                Went stuck = went.copy();
                stuck.stuck = p;
                settle(opened, stuck, p);
                branch(opened, parts, games - 1, chance, sums);
                return;
            }
            for (int k = 0; k < 9; k++) {
                if (b[k] > 0) {
                    Went on = went.copy();
                    on.drawn.add(new int[] {p, k});
                    branchAt(opened, parts, games, chance * b[k] / all, sums, after(p, backAt(p, k)), on);
                }
            }
        }

        // what it knows

        private int goodOf(int box) {
            int good = 0;
            for (int m : kinds(box)) {
                good += best(box).contains(m) ? chest.boxes.get(box)[m] : 0;
            }
            return good;
        }

        int knows() {
            long[] found = new long[3];
            for (Map.Entry<Integer, int[]> e : chest.boxes.entrySet()) {
                int all = beadsIn(e.getValue()).size();
                int good = goodOf(e.getKey());
                if (all > 0) {
                    found[good == all ? 0 : good > 0 ? 1 : 2]++;
                }
            }
            row = new ArrayList<>(List.of(found[1], found[2]));
            return (int) found[0];
        }

        int share(int p) {
            if (!own(p)) {
                return -1;
            }
            int[] b = chest.boxes.get(box(p));
            int all = b == null ? 0 : beadsIn(b).size();
            return all == 0 ? -2 : 1000 * goodOf(box(p)) / all;
        }

        int errs(int p) {
            if (!own(p) || !chest.boxes.containsKey(box(p))) {
                return -1;
            }
            for (int m : moves(p)) {
                if (beads(p, m) > 0 && 2 - worth(after(p, m)) < worth(p)) {
                    return m;
                }
            }
            return -2;
        }

        // teaching

        int teach(int bits, int n, int test) {
            if (none(test) || n < 0 || n > 50 || bits < 1 || bits >= 1 << foes.size() || Integer.bitCount(bits) > 3) {
                return -1;
            }
            List<Integer> those = new ArrayList<>();
            for (int i = 0; i < 8; i++) {
                if ((bits >> i & 1) == 1) {
                    those.add(i);
                }
            }
            List<List<Integer>> orders = new ArrayList<>();
            ordersOf(those, new ArrayList<>(), orders);
            long most = -1;
            for (List<Integer> order : orders) {
                Chest c = chest.copy();
                for (int f : order) {
                    for (int i = 0; i < n; i++) {
                        playOn(c, foes.get(f), fresh);
                    }
                }
                long[] odds = oddsOf(c, foes.get(test));
                if (2 * odds[2] + odds[1] > most) {
                    most = 2 * odds[2] + odds[1];
                    row = new ArrayList<>();
                    for (int f : order) {
                        row.add((long) f);
                    }
                    row.add(most);
                }
            }
            return those.size();
        }

        private void ordersOf(List<Integer> those, List<Integer> begun, List<List<Integer>> orders) {
            if (begun.size() == those.size()) {
                orders.add(new ArrayList<>(begun));
                return;
            }
            for (int f : those) {
                if (!begun.contains(f)) {
                    begun.add(f);
                    ordersOf(those, begun, orders);
                    begun.remove(begun.size() - 1);
                }
            }
        }

        int few(int f, int n) {
            if (none(f) || n < 1 || n > 50) {
                return -1;
            }
            for (int v = 1; v <= 20; v++) {
                Chest c = chest.copy();
                c.empty();
                int[] even = new int[21];
                Arrays.fill(even, v);
                boolean through = true;
                for (int i = 0; i < n && through; i++) {
                    through = playOn(c, foes.get(f), even).end != 3;
                }
                if (through) {
                    return v;
                }
            }
            return -2;
        }

        // chests kept

        boolean keep(int i) {
            if (i < 0 || i > 2) {
                return false;
            }
            kept[i] = chest.copy();
            return true;
        }

        boolean again(int i) {
            if (i < 0 || i > 2 || kept[i] == null) {
                return false;
            }
            chest = kept[i].copy();
            return true;
        }

        int join(int i) {
            if (i < 0 || i > 2 || kept[i] == null) {
                return -1;
            }
            int came = 0;
            for (Map.Entry<Integer, int[]> e : kept[i].boxes.entrySet()) {
                int[] b = chest.boxes.computeIfAbsent(e.getKey(), k -> new int[9]);
                for (int m = 0; m < 9; m++) {
                    int n = Math.min(chest.bag, e.getValue()[m]);
                    b[m] += n;
                    chest.bag -= n;
                    came += n;
                }
            }
            return came;
        }

        // watched

        int watch(int end, int ahead, int before, int behind) {
            if (seen.size() == 12 || end < 0 || end > 2 || ahead < 0 || ahead > 9 || before < 0 || before > 99
                    || behind < 0 || behind > 999) {
                return -1;
            }
            seen.add(new int[] {end, ahead, before, behind});
            return seen.size();
        }

        int fits() {
            int bits = 0;
            for (int r = 0; r < rules.size(); r++) {
                boolean fit = true;
                for (int[] s : seen) {
                    fit &= leaves(rules.get(r), s[0], s[1], s[2]) == s[3];
                }
                bits |= fit ? 1 << r : 0;
            }
            return bits;
        }

        int part() {
            int most = 0;
            for (int end = 0; end < 3; end++) {
                for (int ahead = 0; ahead < 10; ahead++) {
                    TreeSet<Integer> numbers = new TreeSet<>();
                    for (int r = 0; r < rules.size(); r++) {
                        if ((fits() >> r & 1) == 1) {
                            numbers.add(leaves(rules.get(r), end, ahead, 50));
                        }
                    }
                    if (numbers.size() > most) {
                        most = numbers.size();
                        row = new ArrayList<>(List.of((long) end, (long) ahead));
                    }
                }
            }
            return most;
        }

        long row(int i) {
            if (i < 0 || i >= row.size()) {
                throw new NoSuchElementException();
            }
            return row.get(i);
        }
    }
}
