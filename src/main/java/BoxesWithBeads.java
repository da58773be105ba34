import java.util.Arrays;
import java.util.NoSuchElementException;

/**
 * Boxes with beads: a chest that learns small games by beads that are drawn blind and paid.
 *
 * <p>What each call does stands in the document as a numbered promise; the words in capitals that
 * the comments use (BOX, MOVE, BAG, DRAW, ROW and the others) are its terms.
 */
public final class BoxesWithBeads {
    public static final int NONE = -1;

    private static final int FULL = -100;
    private static final int LOST = 0;
    private static final int DRAWN = 1;
    private static final int WON = 2;
    private static final int RESIGNED = 3;

    private static final int MOST_SIGNS = 60;
    private static final int MOST_READ = 40;
    private static final int MOST_RULES = 8;
    private static final int MOST_FOES = 8;
    private static final int MOST_FRESH = 20;
    private static final int MOST_HEAP = 20;
    private static final int MOST_WATCHED = 12;
    private static final int MOST_PUT = 99;
    private static final int MOST_WAYS = 3000;
    private static final int ALL_BEADS = 10000;
    private static final int ALL_ODDS = 1000000000;

    private static final int PLACES = 9;
    private static final int POSITIONS = 19683;
    // Of the empty board of 3 by 3 SIDE 0 can come to 2423 POSITIONS; no other game has more.
    private static final int MOST_BOXES = 2423;
    private static final int TURNS = 8;
    private static final int[] POWERS = {1, 3, 9, 27, 81, 243, 729, 2187, 6561, 19683};
    // Only the two quarter turns are each other's way back; all others are their own.
    private static final int[] INVERSE = {0, 1, 2, 3, 4, 6, 5, 7};

    private final Text text = new Text();
    private final Game draft = new Game();
    private final Table table = new Table();
    private final Likes likes = new Likes(table);
    private final Chest chest = new Chest();
    private final Chest spare = new Chest();
    private final Chest[] keptChests = new Chest[3];
    private final int[] freshBeads = new int[MOST_FRESH + 1];
    private final Rule[] rules = new Rule[MOST_RULES];
    private int ruleCount;
    private int theRule = NONE;
    private final Foe[] foes = new Foe[MOST_FOES];
    private int foeCount;
    private final Contest contest = new Contest(table, likes);
    private final Ways allWays = new Ways(table, likes);
    private final Forecast forecast = new Forecast(table, likes);
    private final int[] ends = new int[4];
    private final int[] watched = new int[4 * MOST_WATCHED];
    private int watchedCount;
    private final Row told = new Row();

    public BoxesWithBeads() {
        for (int i = 0; i < keptChests.length; i++) {
            keptChests[i] = new Chest();
        }
        for (int i = 0; i < rules.length; i++) {
            rules[i] = new Rule();
        }
        for (int i = 0; i < foes.length; i++) {
            foes[i] = new Foe();
        }
        Arrays.fill(freshBeads, 4);
    }

    // ---- texts

    public int sign(int v) {
        return text.append(v);
    }

    public boolean end(int n) {
        return text.cutTo(n);
    }

    public int game() {
        text.rewind();
        boolean read = draft.readFrom(text);
        int answer = read ? 0 : text.fault();
        text.clear();
        if (read) {
            table.take(draft);
            likes.loosen();
            emptyChest();
        }
        return answer;
    }

    public int rule() {
        if (ruleCount < 0 || ruleCount >= rules.length) {
            text.clear();
            return FULL;
        }
        text.rewind();
        boolean read = rules[ruleCount].readFrom(text);
        int answer = read ? ruleCount : text.fault();
        text.clear();
        if (read) {
            ruleCount++;
        }
        return answer;
    }

    public int foe() {
        if (foeCount < 0 || foeCount >= foes.length) {
            text.clear();
            return FULL;
        }
        text.rewind();
        boolean read = foes[foeCount].readFrom(text);
        int answer = read ? foeCount : text.fault();
        text.clear();
        if (read) {
            foeCount++;
        }
        return answer;
    }

    // ---- set up

    public int side(int v) {
        if (v < 0 || v > 1) {
            return NONE;
        }
        int was = likes.chestSide;
        likes.chestSide = v;
        emptyChest();
        return was;
    }

    public boolean likeness(boolean on) {
        boolean was = likes.joined;
        likes.joined = on;
        likes.loosen();
        emptyChest();
        return was;
    }

    public int fresh(int s, int v) {
        if (s < 0 || s >= freshBeads.length || v < 0 || v > MOST_FRESH) {
            return NONE;
        }
        int was = freshBeads[s];
        freshBeads[s] = v;
        return was;
    }

    public int sheet(int kind, int n, int f, int step) {
        if (kind < 0 || kind > 3 || n > freshBeads.length) {
            return NONE;
        }
        boolean missing = kind == 3;
        if (!missing && n < 0) {
            return -2;
        }
        int sum = 0;
        for (int s = 0; s < freshBeads.length; s++) {
            freshBeads[s] = !missing && s < n ? entry(kind, f + s * step) : 0;
            sum += freshBeads[s];
        }
        return missing ? -3 : sum;
    }

    public int pay(int rule) {
        if (rule < NONE || rule >= ruleCount) {
            return -2;
        }
        int was = theRule;
        theRule = rule;
        return was;
    }

    public int seed(int v) {
        int was = chest.random;
        chest.random = v;
        return was;
    }

    // ---- positions

    public int like(int position) {
        likes.lay();
        return table.goesOn(position) ? likes.boxOf(position) : NONE;
    }

    public int value(int position) {
        likes.lay();
        if (!table.goesOn(position)) {
            return NONE;
        }
        int best = table.bestAt(position);
        told.begin();
        for (int m = 0; m < PLACES; m++) {
            if (holds(best, m)) {
                told.add(m);
            }
        }
        return table.worthOf(position);
    }

    public int state(int position) {
        likes.lay();
        return table.stateOf(position);
    }

    public int boxes() {
        likes.lay();
        return likes.boxCount();
    }

    public int shows(int foe) {
        Foe met = foeAt(foe);
        if (met == null) {
            return NONE;
        }
        likes.lay();
        return forecast.countShown(met);
    }

    // ---- beads

    public int beads(int position, int move) {
        likes.lay();
        int slot = likes.slotOf(position);
        int kind = likes.kindOf(position, move);
        if (slot < 0 || kind < 0) {
            return NONE;
        }
        return chest.isOpened(slot) ? chest.beadsOf(slot, kind) : -2;
    }

    public int open(int position) {
        likes.lay();
        int slot = likes.slotOf(position);
        if (slot < 0 || chest.isOpened(slot)) {
            return NONE;
        }
        return chest.fill(slot, likes.kindsAt(position), entryFor(freshBeads, table.stonesOf(position)));
    }

    public int put(int position, int move, int n) {
        likes.lay();
        int slot = likes.slotOf(position);
        int kind = likes.kindOf(position, move);
        if (n < 1 || n > MOST_PUT || !chest.isOpened(slot) || kind < 0 || n > chest.bag) {
            return NONE;
        }
        chest.takeIn(slot, kind, n);
        return chest.beadsOf(slot, kind);
    }

    public int out(int position, int move, int n) {
        likes.lay();
        int slot = likes.slotOf(position);
        int kind = likes.kindOf(position, move);
        if (n < 1 || n > MOST_PUT || !chest.isOpened(slot) || kind < 0 || n > chest.beadsOf(slot, kind)) {
            return NONE;
        }
        chest.giveBack(slot, kind, n);
        return chest.beadsOf(slot, kind);
    }

    public int count(int what) {
        switch (what) {
            case 0: return chest.inBoxes();
            case 1: return chest.bag;
            case 2: return chest.spent;
            case 3: return chest.countOpened(0, PLACES);
            case 4: return chest.countOpened(0, 0);
            case 5: return chest.countOpened(1, 1);
            case 6: return ends[WON] + ends[DRAWN] + ends[LOST] + ends[RESIGNED];
            case 7: return ends[WON];
            case 8: return ends[DRAWN];
            case 9: return ends[LOST] + ends[RESIGNED];
            case 10: return ends[RESIGNED];
            case 11: return ruleCount;
            case 12: return foeCount;
            case 13: return theRule;
            case 14: return likes.chestSide;
            case 15: return text.held();
            case 16: return told.held();
            default: return NONE;
        }
    }

    // ---- games

    public int play(int foe) {
        Foe met = foeAt(foe);
        if (met == null) {
            return NONE;
        }
        likes.lay();
        int result = playOne(met);
        told.begin();
        for (int i = 0; i < contest.moveCount(); i++) {
            told.add(contest.moveAt(i));
        }
        return result;
    }

    public int run(int foe, int n) {
        Foe met = foeAt(foe);
        if (met == null || n < 0 || n > 200) {
            return NONE;
        }
        likes.lay();
        int won = ends[WON];
        int drawn = ends[DRAWN];
        int resigned = ends[RESIGNED];
        for (int i = 0; i < n; i++) {
            playOne(met);
        }
        won = ends[WON] - won;
        drawn = ends[DRAWN] - drawn;
        told.begin();
        told.add(drawn);
        told.add(n - won - drawn);
        told.add(ends[RESIGNED] - resigned);
        return won;
    }

    public int come(int foe, int n) {
        Foe met = foeAt(foe);
        if (met == null || n < 0 || n > 100) {
            return NONE;
        }
        likes.lay();
        for (int played = 0; played <= n; played++) {
            forecast.look(chest, met, freshBeads);
            if (forecast.of(LOST) == 0) {
                return played;
            }
            if (played < n) {
                playOne(met);
            }
        }
        return -2;
    }

    public int odds(int foe) {
        Foe met = foeAt(foe);
        if (met == null) {
            return NONE;
        }
        likes.lay();
        forecast.look(chest, met, freshBeads);
        told.begin();
        told.add(forecast.of(WON));
        told.add(forecast.of(DRAWN));
        told.add(forecast.of(LOST));
        return 0;
    }

    public int ways(int foe, int n) {
        Foe met = foeAt(foe);
        if (met == null || n < 0 || n > 3) {
            return NONE;
        }
        likes.lay();
        spare.copyFrom(chest);
        if (!allWays.goThrough(chest, spare, met, ruleNow(), freshBeads, n)) {
            return -3;
        }
        told.begin();
        told.add(allWays.total);
        told.add(allWays.chances);
        told.add(allWays.chancesOfBeads);
        told.add(allWays.mostBeads);
        told.add(allWays.fewestBeads);
        return 0;
    }

    // ---- what it knows

    public int knows() {
        likes.lay();
        int allBest = 0;
        int someBest = 0;
        int noneBest = 0;
        for (int slot = 0; slot < likes.boxCount(); slot++) {
            int all = chest.allOf(slot);
            int good = chest.sumOf(slot, table.bestAt(likes.boxAt(slot)));
            if (all > 0 && good == all) {
                allBest++;
            } else if (good > 0) {
                someBest++;
            } else if (all > 0) {
                noneBest++;
            }
        }
        told.begin();
        told.add(someBest);
        told.add(noneBest);
        return allBest;
    }

    public int share(int position) {
        likes.lay();
        int slot = likes.slotOf(position);
        if (slot < 0) {
            return NONE;
        }
        int all = chest.allOf(slot);
        if (!chest.isOpened(slot) || all <= 0) {
            return -2;
        }
        return chest.sumOf(slot, table.bestAt(likes.boxOf(position))) * 1000 / all;
    }

    public int errs(int position) {
        likes.lay();
        int slot = likes.slotOf(position);
        if (slot < 0 || !chest.isOpened(slot)) {
            return NONE;
        }
        int losing = table.legalAt(position) & ~table.bestAt(position);
        for (int m = 0; m < PLACES; m++) {
            if (holds(losing, m) && chest.beadsOf(slot, likes.kindOf(position, m)) > 0) {
                return m;
            }
        }
        return -2;
    }

    // ---- teaching

    public int teach(int foes, int n, int test) {
        Foe tested = foeAt(test);
        int many = Integer.bitCount(foes);
        if (tested == null || foes <= 0 || foes >= 1 << foeCount || many > 3 || n < 0 || n > 50) {
            return NONE;
        }
        likes.lay();
        long most = NONE;
        int bestOrder = NONE;
        for (int order = 0; order < 27; order++) {
            if (isOrder(order, many)) {
                teachBy(foes, order, many, n);
                forecast.look(spare, tested, freshBeads);
                long behind = 2L * forecast.of(WON) + forecast.of(DRAWN);
                if (behind > most) {
                    most = behind;
                    bestOrder = order;
                }
            }
        }
        told.begin();
        for (int i = 0; i < many; i++) {
            told.add(nthBit(foes, atOrder(bestOrder, i)));
        }
        told.add(most);
        return many;
    }

    public int few(int foe, int n) {
        Foe met = foeAt(foe);
        if (met == null || n < 1 || n > 50) {
            return NONE;
        }
        likes.lay();
        for (int v = 1; v <= MOST_FRESH; v++) {
            spare.copyFrom(chest);
            spare.emptyAll();
            if (contest.lasts(spare, met, ruleNow(), v, n)) {
                return v;
            }
        }
        return -2;
    }

    // ---- chests kept

    public boolean keep(int i) {
        if (i < 0 || i >= keptChests.length) {
            return false;
        }
        keptChests[i].copyFrom(chest);
        keptChests[i].kept = true;
        return true;
    }

    public boolean again(int i) {
        if (!isKept(i)) {
            return false;
        }
        chest.copyFrom(keptChests[i]);
        return true;
    }

    public int join(int i) {
        if (!isKept(i)) {
            return NONE;
        }
        likes.lay();
        int came = 0;
        for (int slot = 0; slot < likes.boxCount(); slot++) {
            if (keptChests[i].isOpened(slot)) {
                chest.fill(slot, 0, 0);
                for (int kind = 0; kind < PLACES; kind++) {
                    came += chest.takeIn(slot, kind, keptChests[i].beadsOf(slot, kind));
                }
            }
        }
        return came;
    }

    // ---- watched

    public int watch(int end, int ahead, int before, int behind) {
        int at = 4 * watchedCount;
        if (at < 0 || at + 3 >= watched.length || end < LOST || end > WON || ahead < 0 || ahead > 9
                || before < 0 || before > 99 || behind < 0 || behind > 999) {
            return NONE;
        }
        watched[at] = end;
        watched[at + 1] = ahead;
        watched[at + 2] = before;
        watched[at + 3] = behind;
        watchedCount++;
        return watchedCount;
    }

    public int fits() {
        int fitting = 0;
        for (int r = 0; r < ruleCount && r < rules.length; r++) {
            if (fitsAll(rules[r])) {
                fitting |= 1 << r;
            }
        }
        return fitting;
    }

    public int part() {
        int fitting = fits();
        int most = 0;
        int mostEnd = 0;
        int mostAhead = 0;
        for (int end = LOST; end <= WON; end++) {
            for (int ahead = 0; ahead <= 9; ahead++) {
                int unlike = countUnlike(fitting, end, ahead);
                if (unlike > most) {
                    most = unlike;
                    mostEnd = end;
                    mostAhead = ahead;
                }
            }
        }
        if (most > 0) {
            told.begin();
            told.add(mostEnd);
            told.add(mostAhead);
        }
        return most;
    }

    public long row(int i) throws NoSuchElementException {
        if (i < 0 || i >= told.held()) {
            throw new NoSuchElementException("no such number in the row");
        }
        return told.at(i);
    }

    // ---- helpers of the calls

    /** BOXES of another game, side or likeness are other boxes: what was kept fits no longer. */
    private void emptyChest() {
        chest.emptyAll();
        for (int i = 0; i < keptChests.length; i++) {
            keptChests[i].kept = false;
        }
    }

    private boolean isKept(int i) {
        return i >= 0 && i < keptChests.length && keptChests[i].kept;
    }

    private Foe foeAt(int foe) {
        return foe >= 0 && foe < foeCount && foe < foes.length ? foes[foe] : null;
    }

    private Rule ruleNow() {
        return theRule >= 0 && theRule < ruleCount && theRule < rules.length ? rules[theRule] : null;
    }

    private int playOne(Foe met) {
        int result = contest.meet(chest, met, ruleNow(), freshBeads);
        if (result >= 0 && result < ends.length) {
            ends[result]++;
        }
        return result;
    }

    private static int entry(int kind, int v) {
        int seen = v;
        if (kind == 0) {
            seen = (byte) v;
        } else if (kind == 1) {
            seen = (short) v;
        }
        return Math.max(0, Math.min(MOST_FRESH, seen));
    }

    private static int entryFor(int[] fresh, int stones) {
        int s = Math.max(0, Math.min(MOST_FRESH, stones));
        return s < fresh.length ? fresh[s] : 0;
    }

    private void teachBy(int foes, int order, int many, int n) {
        spare.copyFrom(chest);
        for (int i = 0; i < many; i++) {
            Foe met = foeAt(nthBit(foes, atOrder(order, i)));
            for (int g = 0; g < n && met != null; g++) {
                contest.meet(spare, met, ruleNow(), freshBeads);
            }
        }
    }

    /** An order is a number of three digits to the base 3, so that counting up is by numbers. */
    private static int atOrder(int order, int i) {
        if (i == 0) {
            return order / 9;
        }
        return i == 1 ? order / 3 % 3 : order % 3;
    }

    private static boolean isOrder(int order, int many) {
        int seen = 0;
        for (int i = 0; i < 3; i++) {
            int d = atOrder(order, i);
            if (i >= many ? d != 0 : d >= many || holds(seen, d)) {
                return false;
            }
            seen |= 1 << d;
        }
        return true;
    }

    private boolean fitsAll(Rule rule) {
        for (int i = 0; i < watchedCount && 4 * i + 3 < watched.length; i++) {
            int at = 4 * i;
            if (rule.leaves(watched[at], watched[at + 1], watched[at + 2]) != watched[at + 3]) {
                return false;
            }
        }
        return true;
    }

    private int countUnlike(int fitting, int end, int ahead) {
        int unlike = 0;
        for (int r = 0; r < rules.length; r++) {
            boolean isNew = holds(fitting, r);
            for (int q = 0; q < r && isNew; q++) {
                isNew = !holds(fitting, q) || rules[q].leaves(end, ahead, 50) != rules[r].leaves(end, ahead, 50);
            }
            if (isNew) {
                unlike++;
            }
        }
        return unlike;
    }

    private static boolean holds(int mask, int bit) {
        return (mask >>> bit & 1) != 0;
    }

    /** The number of the bit of the mask that has n bits below it; NONE if it has not so many. */
    private static int nthBit(int mask, int n) {
        int left = n;
        for (int bit = 0; bit < 31; bit++) {
            if (holds(mask, bit)) {
                if (left == 0) {
                    return bit;
                }
                left--;
            }
        }
        return NONE;
    }

    /** THE TEXT, and how far a reader of it has got. */
    private static final class Text {
        private final int[] signs = new int[MOST_SIGNS];
        private int length;
        private int at;

        int append(int v) {
            if (length < 0 || length + 4 > signs.length) {
                return NONE;
            }
            for (int i = 0; i < 4; i++) {
                signs[length + i] = v >>> 24 - 8 * i & 255;
            }
            length += 4;
            return length;
        }

        boolean cutTo(int n) {
            if (n < 0 || n > length) {
                return false;
            }
            length = n;
            return true;
        }

        int held() {
            return length;
        }

        void rewind() {
            at = 0;
        }

        void clear() {
            length = 0;
            at = 0;
        }

        void stepBack() {
            if (at > 0) {
                at--;
            }
        }

        /** Behind the 40th sign nothing is read, so that a longer text fails there at the latest. */
        private int current() {
            return at >= 0 && at < length && at < MOST_READ && at < signs.length ? signs[at] : NONE;
        }

        boolean takes(char c) {
            if (current() != c) {
                return false;
            }
            at++;
            return true;
        }

        int digit(int least, int most) {
            int d = current() - '0';
            if (d < least || d > most) {
                return NONE;
            }
            at++;
            return d;
        }

        int number(int most) {
            int first = digit(0, 9);
            int second = current() - '0';
            if (first < 0 || second < 0 || second > 9) {
                return first;
            }
            if (10 * first + second > most) {
                return NONE;
            }
            at++;
            return 10 * first + second;
        }

        boolean ended() {
            return at == length;
        }

        int fault() {
            return -1 - at;
        }
    }

    /** A GAME as its text tells it: a board, or a heap if HEAP is above 0. */
    private static final class Game {
        int wide = 3;
        int high = 3;
        int inRow = 3;
        int heap;
        int takes;
        boolean losing;

        boolean readFrom(Text text) {
            if (text.takes('n')) {
                return readHeap(text);
            }
            return text.takes('g') && readBoard(text);
        }

        private boolean readBoard(Text text) {
            heap = 0;
            takes = 0;
            wide = text.digit(1, 3);
            if (wide < 0 || !text.takes('x')) {
                return false;
            }
            high = text.digit(1, 3);
            if (high < 0 || !text.takes('k')) {
                return false;
            }
            inRow = text.digit(1, 3);
            return inRow > 0 && readRest(text);
        }

        private boolean readHeap(Text text) {
            heap = text.number(MOST_HEAP);
            if (heap == 0) {
                text.stepBack();
            }
            if (heap <= 0 || !text.takes('/')) {
                return false;
            }
            takes = text.digit(1, 3);
            return takes > 0 && readRest(text);
        }

        private boolean readRest(Text text) {
            losing = text.takes('m');
            return text.ended();
        }

        void become(Game other) {
            wide = other.wide;
            high = other.high;
            inRow = other.inRow;
            heap = other.heap;
            takes = other.takes;
            losing = other.losing;
        }
    }

    /** All POSITIONS of THE GAME by their numbers: who moves, what may be done and what it is worth. */
    private static final class Table {
        final Game game = new Game();
        private final int[] states = new int[POSITIONS];
        private final int[] legal = new int[POSITIONS];
        private final int[] worth = new int[POSITIONS];
        private final int[] best = new int[POSITIONS];
        private final int[] lines = new int[4 * PLACES];
        private int lineCount;
        private int size;
        private boolean laid;

        void take(Game told) {
            game.become(told);
            laid = false;
        }

        int size() {
            return size;
        }

        int start() {
            return 2 * game.heap;
        }

        int stateOf(int p) {
            return p >= 0 && p < states.length ? states[p] : NONE;
        }

        boolean goesOn(int p) {
            return p >= 0 && p < states.length && (states[p] == 0 || states[p] == 1);
        }

        int legalAt(int p) {
            return p >= 0 && p < legal.length ? legal[p] : 0;
        }

        int bestAt(int p) {
            return p >= 0 && p < best.length ? best[p] : 0;
        }

        int worthOf(int p) {
            return p >= 0 && p < worth.length ? worth[p] : NONE;
        }

        int stonesOf(int p) {
            if (game.heap > 0) {
                return game.heap - p / 2;
            }
            return game.wide * game.high - Integer.bitCount(legalAt(p));
        }

        int next(int p, int m) {
            if (p < 0 || p >= states.length || m < 0 || m >= PLACES) {
                return NONE;
            }
            int mover = states[p];
            if (game.heap > 0) {
                return 2 * (p / 2 - m - 1) + 1 - mover;
            }
            return p + POWERS[m] * (mover + 1);
        }

        /** What a POSITION is worth to a SIDE: 2 WON, 1 DRAWN, 0 LOST. */
        int worthTo(int p, int side) {
            if (p < 0 || p >= states.length) {
                return DRAWN;
            }
            int now = states[p];
            if (now == 0 || now == 1) {
                return now == side ? worth[p] : WON - worth[p];
            }
            if (now == 2 || now == 3) {
                return now - 2 == side ? WON : LOST;
            }
            return DRAWN;
        }

        int firstWorst(int p) {
            int mover = stateOf(p);
            int moves = legalAt(p);
            int least = WON + 1;
            int worst = NONE;
            for (int m = 0; m < PLACES; m++) {
                if (holds(moves, m)) {
                    int then = worthTo(next(p, m), mover);
                    if (then < least) {
                        least = then;
                        worst = m;
                    }
                }
            }
            return worst;
        }

        /** Laid only when a call asks for it: several settings may follow one another unasked. */
        void lay() {
            if (laid) {
                return;
            }
            laid = true;
            size = game.heap > 0 ? 2 * game.heap + 2 : POWERS[boardPlaces()];
            Arrays.fill(states, NONE);
            Arrays.fill(legal, 0);
            Arrays.fill(best, 0);
            drawLines();
            int first = Math.max(0, Math.min(start(), POSITIONS - 1));
            states[first] = 0;
            for (int i = 0; i < size; i++) {
                int p = inOrder(i);
                if (goesOn(p)) {
                    reachFrom(p);
                }
            }
            for (int i = size - 1; i >= 0; i--) {
                int p = inOrder(i);
                if (goesOn(p)) {
                    weigh(p);
                }
            }
        }

        private int boardPlaces() {
            return Math.max(1, Math.min(PLACES, game.wide * game.high));
        }

        /** Boards grow in number by each MOVE, heaps shrink: so every POSITION stands behind those before it. */
        private int inOrder(int i) {
            return game.heap > 0 ? size - 1 - i : i;
        }

        private void drawLines() {
            lineCount = 0;
            for (int y = 0; y < game.high; y++) {
                for (int x = 0; x < game.wide; x++) {
                    drawLine(x, y, 1, 0);
                    drawLine(x, y, 0, 1);
                    drawLine(x, y, 1, 1);
                    drawLine(x, y, 1, -1);
                }
            }
        }

        private void drawLine(int x, int y, int dx, int dy) {
            int far = game.inRow - 1;
            int endX = x + far * dx;
            int endY = y + far * dy;
            if (endX >= game.wide || endY < 0 || endY >= game.high || lineCount >= lines.length) {
                return;
            }
            int line = 0;
            for (int i = 0; i <= far; i++) {
                line |= 1 << (y + i * dy) * game.wide + x + i * dx;
            }
            lines[lineCount] = line;
            lineCount++;
        }

        private boolean hasLine(int stones) {
            for (int i = 0; i < lineCount && i < lines.length; i++) {
                if ((stones & lines[i]) == lines[i]) {
                    return true;
                }
            }
            return false;
        }

        private void reachFrom(int p) {
            int mover = states[p];
            int own = 0;
            int free = 0;
            if (game.heap > 0) {
                free = (1 << Math.min(game.takes, p / 2)) - 1;
            } else {
                int rest = p;
                for (int place = 0; place < boardPlaces(); place++) {
                    int stone = rest % 3;
                    if (stone == 0) {
                        free |= 1 << place;
                    } else if (stone == mover + 1) {
                        own |= 1 << place;
                    }
                    rest /= 3;
                }
            }
            legal[p] = free;
            for (int m = 0; m < PLACES; m++) {
                if (holds(free, m)) {
                    arrive(next(p, m), mover, own | 1 << m, free == 1 << m);
                }
            }
        }

        private void arrive(int q, int mover, int own, boolean full) {
            if (q < 0 || q >= states.length || states[q] >= 0) {
                return;
            }
            boolean made = game.heap > 0 ? q < 2 : hasLine(own);
            if (made) {
                states[q] = 2 + (game.losing ? 1 - mover : mover);
            } else {
                states[q] = full && game.heap == 0 ? 4 : 1 - mover;
            }
        }

        private void weigh(int p) {
            int mover = states[p];
            int most = NONE;
            int bestMoves = 0;
            for (int m = 0; m < PLACES; m++) {
                if (holds(legal[p], m)) {
                    int then = worthTo(next(p, m), mover);
                    if (then > most) {
                        most = then;
                        bestMoves = 0;
                    }
                    if (then == most) {
                        bestMoves |= 1 << m;
                    }
                }
            }
            worth[p] = most;
            best[p] = bestMoves;
        }
    }

    /** Which BOX each POSITION has, and how its MOVES are led there and back. */
    private static final class Likes {
        private final Table table;
        boolean joined = true;
        int chestSide;
        private final int[] boxOf = new int[POSITIONS];
        private final int[] turnOf = new int[POSITIONS];
        // Twice the number of the BOX among those of its SIDE, and the SIDE that moves.
        private final int[] slots = new int[POSITIONS];
        private final int[] still = new int[POSITIONS];
        private final int[] kinds = new int[POSITIONS];
        private final int[] led = new int[TURNS * PLACES];
        private final int[] back = new int[TURNS * PLACES];
        private final int[] boxAt = new int[2 * MOST_BOXES];
        private final int[] boxCounts = new int[2];
        private final int[] stones = new int[PLACES];
        private int turns;
        private boolean laid;

        Likes(Table table) {
            this.table = table;
        }

        void loosen() {
            laid = false;
        }

        int boxOf(int p) {
            return p >= 0 && p < boxOf.length ? boxOf[p] : NONE;
        }

        /** The number of a POSITION's BOX among THE CHEST's, by POSITION; NONE if it is not THE CHEST's. */
        int slotOf(int p) {
            int slot = p >= 0 && p < slots.length ? slots[p] : NONE;
            return slot >= 0 && (slot & 1) == chestSide ? slot >> 1 : NONE;
        }

        int boxCount() {
            return chestSide == 0 || chestSide == 1 ? boxCounts[chestSide] : 0;
        }

        int boxAt(int slot) {
            return slot >= 0 && slot < boxCount() ? boxAt[chestSide * MOST_BOXES + slot] : NONE;
        }

        /** The MOVES that have beads in a POSITION's BOX, as they are there. */
        int kindsAt(int p) {
            int box = p >= 0 && p < boxOf.length ? boxOf[p] : NONE;
            return box >= 0 && box < kinds.length ? kinds[box] : 0;
        }

        /** The MOVE of the BOX whose beads a MOVE of this POSITION has; NONE if it can't be done. */
        int kindOf(int p, int m) {
            int box = boxOf(p);
            if (box < 0 || m < 0 || m >= PLACES || !holds(table.legalAt(p), m)) {
                return NONE;
            }
            return leastLike(box, led[turnOf[p] * PLACES + m]);
        }

        /** The MOVE of this POSITION that a MOVE of its BOX is led back to. */
        int moveBack(int p, int kind) {
            boolean known = p >= 0 && p < boxOf.length && boxOf[p] >= 0 && kind >= 0 && kind < PLACES;
            return known ? back[turnOf[p] * PLACES + kind] : NONE;
        }

        private int leastLike(int box, int m) {
            int least = m;
            for (int t = 1; t < turns; t++) {
                if (holds(still[box], t)) {
                    least = Math.min(least, led[t * PLACES + m]);
                }
            }
            return least;
        }

        void lay() {
            table.lay();
            if (laid) {
                return;
            }
            laid = true;
            drawTurns();
            Arrays.fill(boxOf, NONE);
            Arrays.fill(slots, NONE);
            Arrays.fill(boxCounts, 0);
            for (int p = 0; p < table.size(); p++) {
                if (table.goesOn(p) && boxOf[p] < 0) {
                    makeBox(p);
                }
            }
        }

        private void drawTurns() {
            Game game = table.game;
            if (!joined || game.heap > 0) {
                turns = 1;
            } else {
                turns = game.wide == game.high ? TURNS : 4;
            }
            for (int t = 0; t < TURNS; t++) {
                for (int m = 0; m < PLACES; m++) {
                    int to = game.heap > 0 || t >= turns ? m : turned(game, t, m);
                    if (to >= 0 && to < PLACES) {
                        led[t * PLACES + m] = to;
                        back[t * PLACES + to] = m;
                    }
                }
            }
        }

        private static int turned(Game game, int t, int place) {
            int wide = Math.max(1, game.wide);
            int x = place % wide;
            int y = place / wide;
            if (y >= game.high) {
                return place;
            }
            int toX = t < 4 ? x : y;
            int toY = t < 4 ? y : x;
            if (holds(t, 0)) {
                toX = game.wide - 1 - toX;
            }
            if (holds(t, 1)) {
                toY = game.high - 1 - toY;
            }
            return toY * wide + toX;
        }

        /** The lesser of like POSITIONS comes first, so the first one without a BOX is a BOX itself. */
        private void makeBox(int box) {
            int mover = table.stateOf(box) == 1 ? 1 : 0;
            int slot = boxCounts[mover];
            if (slot >= MOST_BOXES) {
                return;
            }
            boxAt[mover * MOST_BOXES + slot] = box;
            boxCounts[mover]++;
            still[box] = 0;
            readStones(box);
            for (int t = 0; t < turns && t < INVERSE.length; t++) {
                int p = t == 0 ? box : imageBy(t);
                if (p < 0 || p >= boxOf.length) {
                    continue;
                }
                if (boxOf[p] < 0) {
                    boxOf[p] = box;
                    slots[p] = 2 * slot + mover;
                    turnOf[p] = INVERSE[t];
                }
                turnOf[p] = Math.min(turnOf[p], INVERSE[t]);
                still[box] |= p == box ? 1 << t : 0;
            }
            int legal = table.legalAt(box);
            kinds[box] = 0;
            for (int m = 0; m < PLACES; m++) {
                if (holds(legal, m) && leastLike(box, m) == m) {
                    kinds[box] |= 1 << m;
                }
            }
        }

        private void readStones(int p) {
            int rest = p;
            for (int place = 0; place < PLACES; place++) {
                stones[place] = rest % 3;
                rest /= 3;
            }
        }

        private int imageBy(int t) {
            int image = 0;
            for (int place = 0; place < PLACES; place++) {
                int to = led[t * PLACES + place];
                image += to >= 0 && to < POWERS.length ? stones[place] * POWERS[to] : 0;
            }
            return image;
        }
    }

    /** The beads of all BOXES, of the BAG and SPENT, and R: what is kept together. */
    private static final class Chest {
        private final int[] beads = new int[MOST_BOXES * PLACES];
        private final int[] opened = new int[MOST_BOXES];
        int bag = ALL_BEADS;
        int spent;
        int random = 1;
        boolean kept;

        private int placeOf(int slot, int kind) {
            return slot < 0 || slot >= MOST_BOXES || kind < 0 || kind >= PLACES ? NONE : slot * PLACES + kind;
        }

        boolean isOpened(int slot) {
            return slot >= 0 && slot < opened.length && opened[slot] != 0;
        }

        int beadsOf(int slot, int kind) {
            int at = placeOf(slot, kind);
            return at < 0 ? 0 : beads[at];
        }

        /** The beads of those MOVES of a BOX that stand in the mask. */
        int sumOf(int slot, int moves) {
            int at = placeOf(slot, 0);
            int sum = 0;
            for (int kind = 0; kind < PLACES && at >= 0; kind++) {
                if (holds(moves, kind)) {
                    sum += beads[at + kind];
                }
            }
            return sum;
        }

        int allOf(int slot) {
            return sumOf(slot, -1);
        }

        int inBoxes() {
            return ALL_BEADS - bag - spent;
        }

        /** How many opened BOXES have beads of so many MOVES. */
        int countOpened(int fewest, int most) {
            int found = 0;
            for (int slot = 0; slot < opened.length; slot++) {
                int kinds = 0;
                for (int kind = 0; kind < PLACES && opened[slot] != 0; kind++) {
                    kinds += beads[slot * PLACES + kind] > 0 ? 1 : 0;
                }
                if (opened[slot] != 0 && kinds >= fewest && kinds <= most) {
                    found++;
                }
            }
            return found;
        }

        /** Opens a BOX if it was not; so many of each MOVE come, MOVE by MOVE, as far as the BAG has. */
        int fill(int slot, int kinds, int each) {
            int at = placeOf(slot, 0);
            if (at < 0) {
                return 0;
            }
            opened[slot] = 1;
            int came = 0;
            for (int kind = 0; kind < PLACES; kind++) {
                if (holds(kinds, kind)) {
                    int n = Math.min(each, bag);
                    beads[at + kind] += n;
                    bag -= n;
                    came += n;
                }
            }
            return came;
        }

        int takeIn(int slot, int kind, int n) {
            int at = placeOf(slot, kind);
            if (at < 0) {
                return 0;
            }
            int came = Math.min(n, bag);
            beads[at] += came;
            bag -= came;
            return came;
        }

        void giveBack(int slot, int kind, int n) {
            int at = placeOf(slot, kind);
            if (at >= 0) {
                int went = Math.min(n, beads[at]);
                beads[at] -= went;
                bag += went;
            }
        }

        void spend(int slot, int kind, int n) {
            int at = placeOf(slot, kind);
            if (at >= 0) {
                int went = Math.min(n, beads[at]);
                beads[at] -= went;
                spent += went;
            }
        }

        int draw(int things) {
            random = random * 1103515245 + 12345;
            return things > 0 ? (random >>> 16) % things : 0;
        }

        void emptyAll() {
            Arrays.fill(beads, 0);
            Arrays.fill(opened, 0);
            bag = ALL_BEADS - spent;
        }

        void copyFrom(Chest other) {
            System.arraycopy(other.beads, 0, beads, 0, beads.length);
            System.arraycopy(other.opened, 0, opened, 0, opened.length);
            copyRest(other);
        }

        void copyRest(Chest other) {
            bag = other.bag;
            spent = other.spent;
            random = other.random;
        }

        void copyBox(Chest other, int slot) {
            int at = placeOf(slot, 0);
            if (at >= 0) {
                System.arraycopy(other.beads, at, beads, at, PLACES);
                opened[slot] = other.opened[slot];
            }
        }
    }

    /** A RULE: by what was WON, DRAWN or LOST, how many beads come (or go, below 0). */
    private static final class Rule {
        private final int[] amounts = new int[3];
        private final boolean[] times = new boolean[3];
        private int refill;

        boolean readFrom(Text text) {
            for (int end = 0; end < amounts.length; end++) {
                amounts[end] = 0;
                times[end] = false;
            }
            refill = 0;
            for (int line = 0; line < MOST_READ; line++) {
                if (!readLine(text)) {
                    return false;
                }
                if (text.ended()) {
                    return true;
                }
                if (!text.takes(';')) {
                    return false;
                }
            }
            return false;
        }

        private boolean readLine(Text text) {
            if (text.takes('e')) {
                refill = text.number(99);
                return refill >= 0;
            }
            int end = LOST;
            if (text.takes('w')) {
                end = WON;
            } else if (text.takes('d')) {
                end = DRAWN;
            } else if (!text.takes('l')) {
                return false;
            }
            boolean more = text.takes('+');
            if (!more && !text.takes('-')) {
                return false;
            }
            int n = text.number(99);
            amounts[end] = more ? n : -n;
            times[end] = n >= 0 && text.takes('*');
            return n >= 0;
        }

        int refill() {
            return refill;
        }

        int amount(int end, int ahead) {
            if (end < 0 || end >= amounts.length) {
                return 0;
            }
            return times[end] ? amounts[end] * (ahead + 1) : amounts[end];
        }

        int leaves(int end, int ahead, int before) {
            return Math.max(0, before + amount(end, ahead));
        }
    }

    /** A FOE: one or more parts, each with its SHARE. */
    private static final class Foe {
        // 40 signs hold 13 parts; a 14th may begin and then fail.
        private static final int MOST_PARTS = 14;

        private final int[] letters = new int[MOST_PARTS];
        private final int[] wishes = new int[MOST_PARTS * PLACES];
        private final int[] wishCounts = new int[MOST_PARTS];
        final int[] shares = new int[MOST_PARTS];
        int allShares;
        int parts;

        boolean readFrom(Text text) {
            parts = 0;
            allShares = 0;
            for (int i = 0; i < MOST_PARTS; i++) {
                if (!readLetter(text, i)) {
                    return false;
                }
                shares[i] = text.digit(1, 9);
                if (shares[i] < 0) {
                    return false;
                }
                parts++;
                allShares += shares[i];
                if (text.ended()) {
                    return true;
                }
                if (!text.takes(';')) {
                    return false;
                }
            }
            return false;
        }

        private boolean readLetter(Text text, int i) {
            letters[i] = 0;
            if (text.takes('r')) {
                letters[i] = 'r';
                return readWishes(text, i);
            }
            if (text.takes('f')) {
                letters[i] = 'f';
            } else if (text.takes('m')) {
                letters[i] = 'm';
            } else if (text.takes('t')) {
                letters[i] = 't';
            }
            return letters[i] != 0;
        }

        private boolean readWishes(Text text, int i) {
            wishCounts[i] = 0;
            int seen = 0;
            for (int n = 0; n < PLACES; n++) {
                int wish = text.digit(0, 8);
                if (wish >= 0 && holds(seen, wish)) {
                    text.stepBack();
                    return false;
                }
                if (wish < 0) {
                    break;
                }
                seen |= 1 << wish;
                wishes[i * PLACES + n] = wish;
                wishCounts[i] = n + 1;
            }
            return wishCounts[i] > 0 && text.takes(':');
        }

        boolean isFool(int i) {
            return i >= 0 && i < parts && letters[i] == 'f';
        }

        /** The MOVE of a part that is no fool. */
        int moveOf(int i, Table table, int p) {
            if (i < 0 || i >= parts || i >= MOST_PARTS) {
                return NONE;
            }
            if (letters[i] == 'm') {
                return nthBit(table.bestAt(p), 0);
            }
            if (letters[i] == 't') {
                return table.firstWorst(p);
            }
            int legal = table.legalAt(p);
            for (int n = 0; n < wishCounts[i] && n < PLACES; n++) {
                int wish = wishes[i * PLACES + n];
                if (holds(legal, wish)) {
                    return wish;
                }
            }
            return nthBit(legal, 0);
        }

        /** All MOVES that some part of it may do. */
        int movesAt(Table table, int p) {
            int moves = 0;
            for (int i = 0; i < parts && i < MOST_PARTS; i++) {
                int move = isFool(i) ? NONE : moveOf(i, table, p);
                if (isFool(i)) {
                    moves |= table.legalAt(p);
                } else if (move >= 0) {
                    moves |= 1 << move;
                }
            }
            return moves;
        }
    }

    /** Plays one GAME and pays it, and keeps what was done in it. */
    private static class Contest {
        private final Table table;
        private final Likes likes;
        private final int[] moves = new int[MOST_HEAP];
        private int moveCount;
        private final int[] drawnAt = new int[MOST_HEAP];
        private final int[] drawnKinds = new int[MOST_HEAP];
        private int drawnCount;
        private int stuckAt;
        private final int[] weights = new int[PLACES];
        private final int[] ones = new int[PLACES];
        private final int[] evenFresh = new int[MOST_FRESH + 1];

        Contest(Table table, Likes likes) {
            this.table = table;
            this.likes = likes;
            Arrays.fill(ones, 1);
        }

        final int moveCount() {
            return moveCount;
        }

        final int moveAt(int i) {
            return i >= 0 && i < moveCount && i < moves.length ? moves[i] : NONE;
        }

        final int meet(Chest chest, Foe foe, Rule rule, int[] fresh) {
            moveCount = 0;
            drawnCount = 0;
            stuckAt = NONE;
            int p = table.start();
            for (int i = 0; i < moves.length && table.goesOn(p); i++) {
                boolean own = table.stateOf(p) == likes.chestSide;
                int m = own ? drawMove(chest, p, fresh) : answerMove(chest, foe, p);
                if (m < 0) {
                    break;
                }
                moves[i] = m;
                moveCount++;
                p = table.next(p, m);
            }
            int end = stuckAt >= 0 ? LOST : table.worthTo(p, likes.chestSide);
            if (rule != null) {
                reward(chest, rule, end);
                refill(chest, rule);
            }
            return stuckAt >= 0 ? RESIGNED : end;
        }

        /** Whether THE CHEST comes through so many GAMES without having to RESIGN. */
        final boolean lasts(Chest chest, Foe foe, Rule rule, int each, int n) {
            Arrays.fill(evenFresh, each);
            for (int i = 0; i < n; i++) {
                if (meet(chest, foe, rule, evenFresh) == RESIGNED) {
                    return false;
                }
            }
            return true;
        }

        private int drawMove(Chest chest, int p, int[] fresh) {
            int slot = likes.slotOf(p);
            if (!chest.isOpened(slot)) {
                chest.fill(slot, likes.kindsAt(p), entryFor(fresh, table.stonesOf(p)));
            }
            int all = 0;
            for (int kind = 0; kind < PLACES; kind++) {
                weights[kind] = chest.beadsOf(slot, kind);
                all += weights[kind];
            }
            if (all <= 0 || drawnCount < 0 || drawnCount >= drawnAt.length) {
                stuckAt = p;
                return NONE;
            }
            int kind = pick(chest, weights, PLACES, all);
            drawnAt[drawnCount] = p;
            drawnKinds[drawnCount] = kind;
            drawnCount++;
            return likes.moveBack(p, kind);
        }

        private int answerMove(Chest chest, Foe foe, int p) {
            int i = foe.parts > 1 ? pick(chest, foe.shares, foe.parts, foe.allShares) : 0;
            if (!foe.isFool(i)) {
                return foe.moveOf(i, table, p);
            }
            int legal = table.legalAt(p);
            int many = Integer.bitCount(legal);
            return nthBit(legal, pick(chest, ones, many, many));
        }

        /** Which of several things comes, each as often among all as its weight tells. */
        int pick(Chest chest, int[] weights, int many, int all) {
            int thing = chest.draw(all);
            for (int i = 0; i < many && i < weights.length; i++) {
                if (thing < weights[i]) {
                    return i;
                }
                thing -= weights[i];
            }
            return 0;
        }

        private void reward(Chest chest, Rule rule, int end) {
            for (int i = 0; i < drawnCount && i < drawnAt.length; i++) {
                int slot = likes.slotOf(drawnAt[i]);
                int n = rule.amount(end, i);
                if (n > 0) {
                    chest.takeIn(slot, drawnKinds[i], n);
                } else {
                    chest.spend(slot, drawnKinds[i], -n);
                }
            }
        }

        private void refill(Chest chest, Rule rule) {
            for (int i = 0; i <= drawnCount && i < drawnAt.length; i++) {
                int p = i < drawnCount ? drawnAt[i] : stuckAt;
                int slot = likes.slotOf(p);
                if (slot >= 0 && chest.allOf(slot) == 0) {
                    chest.fill(slot, likes.kindsAt(p), rule.refill());
                }
            }
        }

        /** How many BOXES this GAME came to, the one at which it RESIGNED among them. */
        final int boxesMet() {
            return stuckAt >= 0 ? drawnCount + 1 : drawnCount;
        }

        final int slotMet(int i) {
            return likes.slotOf(i >= 0 && i < drawnCount && i < drawnAt.length ? drawnAt[i] : stuckAt);
        }
    }

    /** Goes through all draws of some GAMES, one way behind the other, like the wheels of a counter. */
    private static final class Ways extends Contest {
        private final int[] chosen = new int[128];
        private final int[] following = new int[128];
        private int depth;
        private int ledTill;
        private long chance;
        private final int[] touched = new int[64];
        private int touchedCount;
        long total;
        long chances;
        long chancesOfBeads;
        long mostBeads;
        long fewestBeads;

        Ways(Table table, Likes likes) {
            super(table, likes);
        }

        /** Whether they are not too many; the chest played on must be a copy of the one from which it goes. */
        boolean goThrough(Chest from, Chest on, Foe foe, Rule rule, int[] fresh, int n) {
            total = 0;
            chances = 0;
            chancesOfBeads = 0;
            mostBeads = 0;
            fewestBeads = ALL_BEADS;
            ledTill = 0;
            for (int way = 0; way < MOST_WAYS; way++) {
                depth = 0;
                chance = ALL_ODDS;
                touchedCount = 0;
                for (int g = 0; g < n; g++) {
                    meet(on, foe, rule, fresh);
                    noteTouched();
                }
                addUp(on.inBoxes());
                takeBack(from, on);
                if (!turnOn()) {
                    return true;
                }
            }
            return false;
        }

        private void addUp(int inBoxes) {
            total++;
            chances += chance;
            chancesOfBeads += chance * inBoxes;
            mostBeads = Math.max(mostBeads, inBoxes);
            fewestBeads = Math.min(fewestBeads, inBoxes);
        }

        private void noteTouched() {
            for (int i = 0; i < boxesMet() && touchedCount < touched.length; i++) {
                touched[touchedCount] = slotMet(i);
                touchedCount++;
            }
        }

        private void takeBack(Chest from, Chest on) {
            for (int i = 0; i < touchedCount && i < touched.length; i++) {
                on.copyBox(from, touched[i]);
            }
            on.copyRest(from);
        }

        /** Leads the deepest draw that can go on to its next thing; false if none can. */
        private boolean turnOn() {
            for (int d = Math.min(depth, chosen.length) - 1; d >= 0; d--) {
                if (following[d] >= 0) {
                    chosen[d] = following[d];
                    ledTill = d + 1;
                    return true;
                }
            }
            return false;
        }

        int pick(Chest chest, int[] weights, int many, int all) {
            int d = depth;
            if (d < 0 || d >= chosen.length || all <= 0) {
                return 0;
            }
            depth++;
            if (d >= ledTill) {
                chosen[d] = behind(weights, many, NONE);
            }
            int i = chosen[d];
            following[d] = behind(weights, many, i);
            chance = i >= 0 && i < weights.length ? chance * weights[i] / all : 0;
            return i;
        }

        private static int behind(int[] weights, int many, int i) {
            for (int next = i + 1; next < many && next >= 0 && next < weights.length; next++) {
                if (weights[next] > 0) {
                    return next;
                }
            }
            return NONE;
        }
    }

    /** ODDS with beads as they are, and what a FOE can show, each POSITION looked at once. */
    private static final class Forecast {
        private static final int DEEPEST = 40;

        private final Table table;
        private final Likes likes;
        private final int[] odds = new int[3 * POSITIONS];
        private final int[] seenIn = new int[POSITIONS];
        private final int[] shownIn = new int[MOST_BOXES];
        private final long[] sums = new long[3];
        private int looks;
        private int shown;
        private Chest chest;
        private Foe foe;
        private int[] fresh;

        Forecast(Table table, Likes likes) {
            this.table = table;
            this.likes = likes;
        }

        void look(Chest lookedInto, Foe met, int[] freshBeads) {
            chest = lookedInto;
            foe = met;
            fresh = freshBeads;
            looks++;
            measure(this, table.start(), 0);
        }

        int of(int end) {
            return oddsOf(table.start(), end);
        }

        private int oddsOf(int p, int end) {
            return p >= 0 && p < POSITIONS && end >= LOST && end <= WON ? odds[3 * p + end] : 0;
        }

        private static void measure(Forecast f, int p, int depth) {
            if (depth > DEEPEST || p < 0 || p >= POSITIONS || f.seenIn[p] == f.looks || f.foe == null) {
                return;
            }
            f.seenIn[p] = f.looks;
            boolean own = f.table.stateOf(p) == f.likes.chestSide;
            int moves = own ? f.ownMoves(p) : f.foe.movesAt(f.table, p);
            for (int m = 0; m < PLACES; m++) {
                if (holds(moves, m)) {
                    measure(f, f.table.next(p, m), depth + 1);
                }
            }
            if (!f.table.goesOn(p)) {
                f.setOver(p);
            } else if (own) {
                f.setOwn(p);
            } else {
                f.setFoes(p);
            }
        }

        private int ownMoves(int p) {
            int kinds = likes.kindsAt(p);
            int moves = 0;
            for (int kind = 0; kind < PLACES; kind++) {
                int m = likes.moveBack(p, kind);
                if (holds(kinds, kind) && m >= 0 && beadsAt(p, kind) > 0) {
                    moves |= 1 << m;
                }
            }
            return moves;
        }

        private int beadsAt(int p, int kind) {
            int slot = likes.slotOf(p);
            if (chest != null && chest.isOpened(slot)) {
                return chest.beadsOf(slot, kind);
            }
            return fresh != null && holds(likes.kindsAt(p), kind) ? entryFor(fresh, table.stonesOf(p)) : 0;
        }

        private void setOver(int p) {
            int end = table.worthTo(p, likes.chestSide);
            for (int e = LOST; e <= WON; e++) {
                odds[3 * p + e] = e == end ? ALL_ODDS : 0;
            }
        }

        private void setOwn(int p) {
            long won = 0;
            long drawn = 0;
            long lost = 0;
            int all = 0;
            for (int kind = 0; kind < PLACES; kind++) {
                int n = beadsAt(p, kind);
                if (n > 0) {
                    int q = table.next(p, likes.moveBack(p, kind));
                    all += n;
                    won += (long) n * oddsOf(q, WON);
                    drawn += (long) n * oddsOf(q, DRAWN);
                    lost += (long) n * oddsOf(q, LOST);
                }
            }
            odds[3 * p + WON] = all > 0 ? (int) (won / all) : 0;
            odds[3 * p + DRAWN] = all > 0 ? (int) (drawn / all) : 0;
            odds[3 * p + LOST] = all > 0 ? (int) (lost / all) : ALL_ODDS;
        }

        private void setFoes(int p) {
            Arrays.fill(sums, 0);
            boolean several = foe != null && foe.parts > 1;
            for (int i = 0; foe != null && i < foe.parts && i < foe.shares.length; i++) {
                int times = several ? foe.shares[i] : 1;
                if (foe.isFool(i)) {
                    addFool(p, times);
                } else {
                    addMove(p, foe.moveOf(i, table, p), times);
                }
            }
            int all = several ? foe.allShares : 1;
            for (int e = LOST; e <= WON; e++) {
                odds[3 * p + e] = all > 0 ? (int) (sums[e] / all) : 0;
            }
        }

        private void addMove(int p, int m, int times) {
            int q = table.next(p, m);
            for (int e = LOST; e <= WON; e++) {
                sums[e] += (long) times * oddsOf(q, e);
            }
        }

        /** A fool's ODDS are cut before its SHARE is taken. */
        private void addFool(int p, int times) {
            int legal = table.legalAt(p);
            int many = Integer.bitCount(legal);
            for (int e = LOST; e <= WON; e++) {
                long sum = 0;
                for (int m = 0; m < PLACES; m++) {
                    if (holds(legal, m)) {
                        sum += oddsOf(table.next(p, m), e);
                    }
                }
                sums[e] += many > 0 ? times * (sum / many) : 0;
            }
        }

        int countShown(Foe met) {
            foe = met;
            looks++;
            shown = 0;
            reach(this, table.start(), 0);
            return shown;
        }

        private static void reach(Forecast f, int p, int depth) {
            if (depth > DEEPEST || p < 0 || p >= POSITIONS || f.seenIn[p] == f.looks || f.foe == null) {
                return;
            }
            f.seenIn[p] = f.looks;
            f.noteShown(f.likes.slotOf(p));
            boolean own = f.table.stateOf(p) == f.likes.chestSide;
            int moves = own ? f.table.legalAt(p) : f.foe.movesAt(f.table, p);
            for (int m = 0; m < PLACES; m++) {
                if (holds(moves, m)) {
                    reach(f, f.table.next(p, m), depth + 1);
                }
            }
        }

        private void noteShown(int slot) {
            if (slot >= 0 && slot < shownIn.length && shownIn[slot] != looks) {
                shownIn[slot] = looks;
                shown++;
            }
        }
    }

    /** The ROW: numbers told last by a call that says so. */
    private static final class Row {
        private final long[] numbers = new long[32];
        private int length;

        void begin() {
            length = 0;
        }

        void add(long n) {
            if (length >= 0 && length < numbers.length) {
                numbers[length] = n;
                length++;
            }
        }

        int held() {
            return length;
        }

        long at(int i) {
            return i >= 0 && i < length && i < numbers.length ? numbers[i] : NONE;
        }
    }
}
