import java.util.List;

/** Refused calls answer NONE, false or another number below 0, and change nothing: two objects stay alike. */
public final class RefusedTest {
    private static final int[] FAR = {-1, -2, 19683, 100000, Integer.MIN_VALUE, Integer.MAX_VALUE};

    public static void main(String[] args) {
        fresh();
        inPlay("g3x3k3", 0, 0, 0, 7, 11, 15, 83, 163);
        inPlay("g2x3k3m", 1, 1, 1, 3, 9, 1 + 6 + 9);
        inPlay("n9/3", 0, 18, 18, 14, 12, 8, 2);
        inPlay("n12/2m", 1, 23, 23, 21, 17, 9, 3);
        Due.close("RefusedTest");
    }

    /** Each call as the first one on a new object. */
    private static void fresh() {
        Due.is("like", new BoxesWithBeads().like(0), 0);
        Due.is("value", new BoxesWithBeads().value(0), 1);
        Due.is("state", new BoxesWithBeads().state(0), 0);
        Due.is("boxes", new BoxesWithBeads().boxes(), 338);
        Due.is("shows", new BoxesWithBeads().shows(0), -1);
        Due.is("beads", new BoxesWithBeads().beads(0, 0), -2);
        Due.is("open", new BoxesWithBeads().open(0), 12);
        Due.is("put", new BoxesWithBeads().put(0, 0, 1), -1);
        Due.is("out", new BoxesWithBeads().out(0, 0, 1), -1);
        Due.is("count", new BoxesWithBeads().count(3), 0);
        Due.is("play", new BoxesWithBeads().play(0), -1);
        Due.is("run", new BoxesWithBeads().run(0, 0), -1);
        Due.is("come", new BoxesWithBeads().come(0, 0), -1);
        Due.is("odds", new BoxesWithBeads().odds(0), -1);
        Due.is("ways", new BoxesWithBeads().ways(0, 0), -1);
        Due.is("knows", new BoxesWithBeads().knows(), 0);
        Due.is("share", new BoxesWithBeads().share(0), -2);
        Due.is("errs", new BoxesWithBeads().errs(0), -1);
        Due.is("teach", new BoxesWithBeads().teach(0, 0, 0), -1);
        Due.is("few", new BoxesWithBeads().few(0, 1), -1);
        Due.is("keep", new BoxesWithBeads().keep(0), true);
        Due.is("again", new BoxesWithBeads().again(0), false);
        Due.is("join", new BoxesWithBeads().join(0), -1);
        Due.is("watch", new BoxesWithBeads().watch(0, 0, 0, 0), 1);
        Due.is("fits", new BoxesWithBeads().fits(), 0);
        Due.is("part", new BoxesWithBeads().part(), 0);
        Due.is("end", new BoxesWithBeads().end(0), true);
        Due.is("game", new BoxesWithBeads().game(), -1);
        Due.is("rule", new BoxesWithBeads().rule(), -1);
        Due.is("foe", new BoxesWithBeads().foe(), -1);
        Due.is("side", new BoxesWithBeads().side(1), 0);
        Due.is("fresh", new BoxesWithBeads().fresh(20, 20), 4);
        Due.is("sheet", new BoxesWithBeads().sheet(3, 0, 0, 0), -3);
        Due.is("pay", new BoxesWithBeads().pay(0), -2);
        BoxesWithBeads x = Due.with("g3x3k3", "m1");
        Due.is("shows, first asked", x.shows(0) > 0, true);
        x = Due.with("g3x3k3", "m1");
        Due.is("odds, first asked", x.odds(0), 0);
        x = Due.with("g3x3k3", "m1");
        Due.is("play, first asked", x.play(0) >= 0, true);
        x = Due.with("g3x3k3", "m1");
        Due.is("teach, first asked", x.teach(1, 1, 0), 1);
        x = Due.with("g3x3k3", "m1");
        Due.is("few, first asked", x.few(0, 1), 1);
        x = Due.with("g3x3k3", "m1");
        Due.is("ways, first asked", x.ways(0, 0), 0);
        x = Due.with("g3x3k3", "m1");
        Due.is("come, first asked", x.come(0, 0), -2);
        x = Due.with("g3x3k3", "m1");
        Due.is("run, first asked", x.run(0, 0), 0);
    }

    private static BoxesWithBeads made(String game, int side) {
        BoxesWithBeads x = Due.with(game, "f1", "m2;t1", "r12:3");
        Due.is("a rule", Due.rule(x, "w+3*;d+1;l-1;e2"), 0);
        Due.is("a rule", Due.rule(x, "w+3;l-1"), 1);
        x.side(side);
        x.pay(0);
        x.run(0, 20);
        x.keep(1);
        x.run(1, 9);
        x.watch(2, 0, 4, 7);
        x.sign(0x66310000);
        x.value(side == 0 ? (game.startsWith("g") ? 0 : 18) : 1);
        return x;
    }

    private static void inPlay(String game, int side, int start, int... positions) {
        for (int i = -1; i < FAR.length; i++) {
            BoxesWithBeads x = made(game, side);
            BoxesWithBeads y = made(game, side);
            if (i < 0) {
                refuseNear(x, y, game, start);
            } else {
                refuseFar(x, FAR[i], start);
            }
            Due.same(game + ": all is as it was", all(x, positions), all(y, positions));
            Due.is(game + ": kept", x.again(1), y.again(1));
            Due.same(game + ": what was kept is as it was", all(x, positions), all(y, positions));
            Due.is(game + ": fits", x.fits(), y.fits());
            Due.is(game + ": part", x.part(), y.part());
            Due.is(game + ": the same games follow", x.run(0, 20), y.run(0, 20));
            Due.same(game + ": and the same beads", all(x, positions), all(y, positions));
        }
    }

    private static List<Long> all(BoxesWithBeads x, int... positions) {
        List<Long> all = Due.picture(x, 9, positions);
        int r = x.seed(0);
        x.seed(r);
        all.add((long) r);
        int[] some = {0, 1, 2, 7, 20};
        for (int s : some) {
            int v = x.fresh(s, 0);
            x.fresh(s, v);
            all.add((long) v);
        }
        return all;
    }

    private static void refuseFar(BoxesWithBeads x, int far, int start) {
        Due.is("side", x.side(far), -1);
        Due.is("fresh s", x.fresh(far, 1), -1);
        Due.is("fresh v", x.fresh(1, far), -1);
        Due.is("sheet", x.sheet(far, 1, 1, 1), -1);
        Due.is("pay", far == -1 ? -2 : x.pay(far), -2);
        Due.is("like", x.like(far), -1);
        Due.is("value", x.value(far), -1);
        Due.is("state", x.state(far), -1);
        Due.is("shows", x.shows(far), -1);
        Due.is("beads", x.beads(far, 0), -1);
        Due.is("beads", x.beads(start, far), -1);
        Due.is("open", x.open(far), -1);
        Due.is("put", x.put(far, 0, 1), -1);
        Due.is("put", x.put(start, far, 1), -1);
        Due.is("put", x.put(start, 0, far), -1);
        Due.is("out", x.out(far, 0, 1), -1);
        Due.is("out", x.out(start, far, 1), -1);
        Due.is("out", x.out(start, 0, far), -1);
        Due.is("count", x.count(far), -1);
        Due.is("play", x.play(far), -1);
        Due.is("run", x.run(far, 1), -1);
        Due.is("run", x.run(0, far), -1);
        Due.is("come", x.come(far, 1), -1);
        Due.is("come", x.come(0, far), -1);
        Due.is("odds", x.odds(far), -1);
        Due.is("ways", x.ways(far, 1), -1);
        Due.is("ways", x.ways(0, far), -1);
        Due.is("share", x.share(far), -1);
        Due.is("errs", x.errs(far), -1);
        Due.is("teach", x.teach(far, 1, 0), -1);
        Due.is("teach", x.teach(1, far, 0), -1);
        Due.is("teach", x.teach(1, 1, far), -1);
        Due.is("few", x.few(far, 1), -1);
        Due.is("few", x.few(0, far), -1);
        Due.is("keep", x.keep(far), false);
        Due.is("again", x.again(far), false);
        Due.is("join", x.join(far), -1);
        Due.is("watch", x.watch(far, 0, 0, 0), -1);
        Due.is("watch", x.watch(0, far, 0, 0), -1);
        Due.is("watch", x.watch(0, 0, far, 0), -1);
        Due.is("watch", x.watch(0, 0, 0, far), -1);
        Due.is("end", x.end(far), false);
        Due.is("row", Due.rowThrows(x, far), true);
    }

    private static void refuseNear(BoxesWithBeads x, BoxesWithBeads y, String game, int start) {
        Due.is("side", x.side(2), -1);
        Due.is("fresh", x.fresh(21, 1), -1);
        Due.is("fresh", x.fresh(1, 21), -1);
        Due.is("sheet", x.sheet(4, 1, 1, 1), -1);
        Due.is("sheet", x.sheet(0, 22, 1, 1), -1);
        Due.is("sheet", x.sheet(3, 22, 1, 1), -1);
        Due.is("sheet, -2", x.sheet(1, -1, 1, 1), -2);
        Due.is("pay, -2", x.pay(2), -2);
        Due.is("put", x.put(start, 0, 100), -1);
        Due.is("put", x.put(start, 0, 0), -1);
        Due.is("out", x.out(start, 0, 100), -1);
        Due.is("out", x.out(start, 0, 0), -1);
        Due.is("play", x.play(3), -1);
        Due.is("run", x.run(0, 201), -1);
        Due.is("run", x.run(3, 1), -1);
        Due.is("come", x.come(0, 101), -1);
        Due.is("come", x.come(3, 5), -1);
        Due.is("odds", x.odds(3), -1);
        Due.is("ways", x.ways(0, 4), -1);
        Due.is("ways", x.ways(3, 1), -1);
        Due.is("shows", x.shows(3), -1);
        Due.is("teach", x.teach(8, 1, 0), -1);
        Due.is("teach", x.teach(1, 51, 0), -1);
        Due.is("teach", x.teach(1, 1, 3), -1);
        Due.is("few", x.few(0, 51), -1);
        Due.is("few", x.few(0, 0), -1);
        Due.is("few", x.few(3, 1), -1);
        Due.is("keep", x.keep(3), false);
        Due.is("watch", x.watch(3, 0, 0, 0), -1);
        Due.is("watch", x.watch(0, 10, 0, 0), -1);
        Due.is("watch", x.watch(0, 0, 100, 0), -1);
        Due.is("watch", x.watch(0, 0, 0, 1000), -1);
        Due.is("again, nothing kept", x.again(0), false);
        Due.is("join, nothing kept", x.join(2), -1);
        Due.is("few changes nothing", x.few(0, 9) >= -2, true);
        Due.is("row", Due.rowThrows(x, x.count(16)), true);
        int ways = x.ways(0, 3);
        Due.is("too many ways", ways, -3);
        for (int i = 0; i < 14; i++) {
            x.sign(0);
            y.sign(0);
        }
        Due.is(game + ": more than 60 signs", x.sign(0), -1);
        Due.is(game + ": 60", x.count(15), 60);
        Due.is(game + ": the 61st", x.end(61), false);
    }
}
