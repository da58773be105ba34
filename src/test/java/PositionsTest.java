/** Promises 13 to 17: like, value, state, boxes, shows. */
public final class PositionsTest {
    public static void main(String[] args) {
        likesOfSquares();
        likesOfOthers();
        values();
        statesOfBoards();
        statesOfHeaps();
        boxes();
        shows();
        showsMixed();
        Due.close("PositionsTest");
    }

    private static void like(BoxesWithBeads x, int position, int want) {
        Due.is("13: like(" + position + ")", x.like(position), want);
    }

    private static void likesOfSquares() {
        BoxesWithBeads x = new BoxesWithBeads();
        int[] corners = {1, 9, 729, 6561};
        int[] edges = {3, 27, 243, 2187};
        for (int i = 0; i < 4; i++) {
            like(x, corners[i], 1);
            like(x, edges[i], 3);
        }
        like(x, 0, 0);
        like(x, 81, 81);
        // A stone of SIDE 0 in a corner and one of SIDE 1 on an edge beside it: the 8 of them are like.
        int[] beside = {1 + 6, 1 + 54, 9 + 6, 9 + 486, 729 + 54, 729 + 4374, 6561 + 486, 6561 + 4374};
        for (int p : beside) {
            like(x, p, 7);
        }
        // The other way round the corner's stone is the greater one, so the edge at place 1 tells the least.
        like(x, 2 + 3, 5);
        like(x, 3 + 18, 5);
        like(x, 2 + 27, 5);
        like(x, 2187 + 13122, 5);
        like(x, -1, -1);
        like(x, 2, -1);
        like(x, 19683, -1);
        like(x, Integer.MAX_VALUE, -1);
        like(x, Integer.MIN_VALUE, -1);
        like(x, 1 + 3 + 9 + 54 + 162, -1);
        Due.is("13: it is over there", x.state(1 + 3 + 9 + 54 + 162), 2);
        Due.is("13: the SIDE does not matter", x.side(1), 0);
        like(x, 0, 0);
        like(x, 6561, 1);
        Due.is("13: nor the row", x.count(16), 0);
    }

    private static void likesOfOthers() {
        BoxesWithBeads x = Due.with("g3x2k3");
        int[] corners = {1, 9, 27, 243};
        for (int p : corners) {
            like(x, p, 1);
        }
        like(x, 3, 3);
        like(x, 81, 3);
        like(x, 0, 0);
        like(x, 729, -1);
        x = Due.with("g2x3k3");
        int[] cornersHigh = {1, 3, 81, 243};
        for (int p : cornersHigh) {
            like(x, p, 1);
        }
        like(x, 9, 9);
        like(x, 27, 9);
        x = Due.with("g1x3k3");
        like(x, 1, 1);
        like(x, 9, 1);
        like(x, 3, 3);
        x = Due.with("n5/3");
        like(x, 10, 10);
        like(x, 9, 9);
        like(x, 8, -1);
        like(x, 7, 7);
        like(x, 6, 6);
        like(x, 11, -1);
        like(x, 1, -1);
        like(x, 12, -1);
        x = new BoxesWithBeads();
        x.likeness(false);
        like(x, 6561, 6561);
        like(x, 6561 + 4374, 6561 + 4374);
        like(x, 2, -1);
    }

    private static void value(BoxesWithBeads x, int position, int want, long... best) {
        Due.is("14: value(" + position + ")", x.value(position), want);
        Due.row("14: value(" + position + ")", x, best);
    }

    private static void values() {
        BoxesWithBeads x = new BoxesWithBeads();
        value(x, 0, 1, 0, 1, 2, 3, 4, 5, 6, 7, 8);
        value(x, 1, 1, 4);
        value(x, 81, 1, 0, 2, 6, 8);
        value(x, 1 + 6, 2, 3, 4, 6);
        value(x, 1 + 3 + 54 + 162, 2, 2);
        Due.is("14: over", x.value(1 + 3 + 9 + 54 + 162), -1);
        Due.is("14: can't come", x.value(2), -1);
        Due.is("14: below 0", x.value(-1), -1);
        Due.is("14: too great", x.value(19683), -1);
        Due.row("14: the row stays", x, 2);

        x = Due.with("n7/3");
        value(x, 14, 2, 2);
        value(x, 9, 0, 0, 1, 2);
        value(x, 8, 0, 0, 1, 2);
        value(x, 7, 2, 2);
        value(x, 3, 2, 0);
        x = Due.with("n7/3m");
        value(x, 14, 2, 1);
        value(x, 10, 0, 0, 1, 2);
        value(x, 2, 0, 0);
        value(x, 5, 2, 0);
        x = Due.with("g1x1k1m");
        value(x, 0, 0, 0);
        x = Due.with("g1x1k2");
        value(x, 0, 1, 0);
        x = Due.with("g3x3k1");
        value(x, 0, 2, 0, 1, 2, 3, 4, 5, 6, 7, 8);
        x = Due.with("g3x1k2m");
        // Behind each first stone the other SIDE can leave the neighbouring place for the last one.
        value(x, 0, 0, 0, 1, 2);
    }

    private static void state(BoxesWithBeads x, int position, int want) {
        Due.is("15: state(" + position + ")", x.state(position), want);
    }

    private static void statesOfBoards() {
        BoxesWithBeads x = new BoxesWithBeads();
        state(x, 0, 0);
        state(x, 1, 1);
        state(x, 2, -1);
        state(x, 1 + 6, 0);
        state(x, 1 + 3, -1);
        state(x, 1 + 3 + 9 + 54 + 162, 2);
        state(x, 1 + 3 + 729 + 54 + 162 + 486, 3);
        state(x, 1 + 3 + 9 + 54 + 162 + 486, -1);
        state(x, 1 + 27 + 729 + 6 + 162, 2);
        state(x, 1 + 81 + 6561 + 6 + 54, 2);
        state(x, 9 + 81 + 729 + 6 + 54, 2);
        // 0 1 0 / 0 1 1 / 1 0 0 as sides: full without a row.
        state(x, 1 + 6 + 9 + 27 + 162 + 486 + 1458 + 2187 + 6561, 4);
        state(x, -1, -1);
        state(x, 19682, -1);
        state(x, 19683, -1);
        state(x, Integer.MAX_VALUE, -1);
        state(x, Integer.MIN_VALUE, -1);

        x = Due.with("g1x1k1");
        state(x, 0, 0);
        state(x, 1, 2);
        state(x, 2, -1);
        state(x, 3, -1);
        x = Due.with("g1x1k1m");
        state(x, 1, 3);
        x = Due.with("g1x1k3m");
        state(x, 1, 4);
        x = Due.with("g2x2k2");
        state(x, 1 + 6 + 27, 2);
        state(x, 1 + 6 + 9, 2);
        state(x, 3 + 2 + 9, 2);
        x = Due.with("g2x2k2m");
        state(x, 1 + 6 + 27, 3);
        x = Due.with("g2x2k3");
        state(x, 1 + 6 + 9, 1);
        state(x, 1 + 6 + 9 + 54, 4);
        x = Due.with("g3x1k2");
        state(x, 1 + 6 + 9, 4);
        state(x, 1 + 3 + 18, 2);
        state(x, 3, 1);
        state(x, 27, -1);
        x = Due.with("g1x3k2");
        state(x, 1 + 3 + 18, 2);
        x = Due.with("g3x2k2");
        // Places 2 and 3 are neighbours by number, not on the board.
        state(x, 9 + 27 + 2, 1);
        state(x, 9 + 81 + 2, 2);
        state(x, 1 + 81 + 6, 2);
    }

    private static void statesOfHeaps() {
        BoxesWithBeads x = Due.with("n5/2");
        int[] want = {3, 2, 0, 1, 0, 1, 0, 1, -1, 1, 0, -1, -1};
        for (int p = 0; p < want.length; p++) {
            state(x, p, want[p]);
        }
        x = Due.with("n5/2m");
        state(x, 0, 2);
        state(x, 1, 3);
        x = Due.with("n1/3");
        state(x, 2, 0);
        state(x, 1, 2);
        state(x, 0, -1);
        state(x, 3, -1);
        x = Due.with("n20/3");
        state(x, 40, 0);
        state(x, 41, -1);
        state(x, 39, 1);
        state(x, 38, -1);
    }

    private static void boxes() {
        BoxesWithBeads x = new BoxesWithBeads();
        Due.is("16: SIDE 0", x.boxes(), 338);
        x.side(1);
        Due.is("16: SIDE 1", x.boxes(), 289);
        x.likeness(false);
        Due.is("16: SIDE 1, each its own", x.boxes(), 2097);
        x.side(0);
        Due.is("16: SIDE 0, each its own", x.boxes(), 2423);
        x = Due.with("g1x1k1");
        Due.is("16: one place", x.boxes(), 1);
        x.side(1);
        Due.is("16: it never moves", x.boxes(), 0);
        x = Due.with("g2x2k2");
        // None, and an opposed or neighboured pair in both colours: 1 stone each, by turns two forms.
        Due.is("16: two by two", x.boxes(), 3);
        x = Due.with("n5/2");
        Due.is("16: heap of 5: 5 3 2 1", x.boxes(), 4);
        x.side(1);
        Due.is("16: heap of 5: 4 3 2 1", x.boxes(), 4);
        x = Due.with("n20/1");
        Due.is("16: heap of 20, by ones", x.boxes(), 10);
        x = Due.with("n20/3");
        // All but 19: two MOVES are ahead, which take two at least.
        Due.is("16: heap of 20, by threes", x.boxes(), 19);
    }

    private static void shows() {
        BoxesWithBeads x = Due.with("n5/2", "m1", "t1", "f1", "r1:1");
        Due.is("17: none such", x.shows(-1), -1);
        Due.is("17: none such", x.shows(4), -1);
        // From 4 the master takes 1, from 3 (lost) the first: 5, then 3 2, then 1 of 2 or 3 by one each.
        Due.is("17: a master", x.shows(0), 3);
        Due.is("17: a fool", x.shows(2), 4);
        // Always two: 5, then 2 (of 4) or 1 (of 3), then none.
        Due.is("17: one of a kind", x.shows(3), 3);
        x.side(1);
        // 5 is WON by 2: then 3, then 1 or 2 are left to the master: it takes all.
        Due.is("17: a master ahead", x.shows(0), 1);
        // 5: the worst is 1: 4, then 3 or 2; of 3 the first: 2; of 2 the worst: 1.
        Due.is("17: a teacher ahead", x.shows(1), 3);
        Due.is("17: a fool ahead", x.shows(2), 4);
        Due.is("17: no row", x.count(16), 0);
        Due.is("17: nothing opened", x.count(3), 0);
        x = Due.with("g3x3k3", "r0:1", "f1");
        Due.is("17: as one fool", x.shows(1), 338);
        x.side(1);
        Due.is("17: as one fool", x.shows(1), 289);
    }

    private static void showsMixed() {
        BoxesWithBeads x = Due.with("g3x1k3", "r0:1", "r2:1", "r1:1", "r0:1;r1:1", "f9", "r012:1", "r0:1;r1:1;r2:1");
        x.side(1);
        // Alone each shows one place: the first stone, then the last of three is the FOE's.
        Due.is("17: at one end", x.shows(0), 1);
        Due.is("17: at the other end, which is like", x.shows(1), 1);
        Due.is("17: in the middle", x.shows(2), 1);
        Due.is("17: both", x.shows(3), 2);
        Due.is("17: a fool", x.shows(4), 2);
        Due.is("17: the first of them", x.shows(5), 1);
        Due.is("17: all", x.shows(6), 2);
        x.likeness(false);
        Due.is("17: each its own", x.shows(3), 2);
        Due.is("17: each its own", x.shows(6), 3);
        Due.is("17: each its own", x.shows(4), 3);
    }
}
