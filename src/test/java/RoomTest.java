import java.lang.management.ManagementFactory;
import java.lang.reflect.Array;
import java.lang.reflect.Field;
import java.lang.reflect.Modifier;
import java.util.Collections;
import java.util.IdentityHashMap;
import java.util.Set;

/**
 * What it is: "An object is used for at most 512 calls": all of them are right, to the last one. And the room that a
 * run has: what one object holds, and that no call makes anything.
 */
public final class RoomTest {
    private static final int CALLS = 512;

    public static void main(String[] args) throws Exception {
        holdsLittle();
        makesNothing();
        signsToTheLast();
        gamesToTheLast();
        keptToTheLast();
        watchedToTheLast();
        dearestCalls();
        Due.close("RoomTest");
    }

    /** Counts the objects and arrays that hang on one object, and their fields and elements. */
    private static long[] sizes(Object of, Set<Object> seen) throws IllegalAccessException {
        long[] sum = {0, 0};
        if (of == null || of instanceof String || !seen.add(of)) {
            return sum;
        }
        sum[0] = 1;
        if (of.getClass().isArray()) {
            int length = Array.getLength(of);
            sum[1] = length;
            for (int i = 0; i < length && !of.getClass().getComponentType().isPrimitive(); i++) {
                long[] inside = sizes(Array.get(of, i), seen);
                sum[0] += inside[0];
                sum[1] += inside[1];
            }
            return sum;
        }
        for (Class<?> c = of.getClass(); c != Object.class; c = c.getSuperclass()) {
            for (Field f : c.getDeclaredFields()) {
                if (Modifier.isStatic(f.getModifiers())) {
                    continue;
                }
                sum[1]++;
                f.setAccessible(true);
                if (!f.getType().isPrimitive()) {
                    long[] inside = sizes(f.get(of), seen);
                    sum[0] += inside[0];
                    sum[1] += inside[1];
                }
            }
        }
        return sum;
    }

    private static void holdsLittle() throws IllegalAccessException {
        BoxesWithBeads x = Whole.board();
        long[] sum = sizes(x, Collections.newSetFromMap(new IdentityHashMap<>()));
        System.out.println("one object holds " + sum[0] + " objects and " + sum[1] + " fields and elements");
        // Of 600000 and 7300000 of a run: ten objects and more can be made in it.
        Due.is("few objects", sum[0] <= 1000, true);
        Due.is("few elements", sum[1] <= 500000, true);
    }

    private static long made() {
        com.sun.management.ThreadMXBean bean = (com.sun.management.ThreadMXBean) ManagementFactory.getThreadMXBean();
        return bean.getThreadAllocatedBytes(Thread.currentThread().getId());
    }

    private static int everyCall(BoxesWithBeads x) {
        int sum = x.sign(5) + (x.end(0) ? 1 : 0) + x.game() + x.rule() + x.foe() + x.side(1) + (x.likeness(true) ? 1 : 0);
        sum += x.fresh(0, 4) + x.sheet(2, 21, 4, 0) + x.pay(0) + x.seed(7) + x.like(1) + x.value(1) + x.state(1);
        sum += x.boxes() + x.shows(0) + x.open(1) + x.beads(1, 4) + x.put(1, 4, 9) + x.out(1, 4, 9) + x.count(3);
        sum += x.play(0) + x.run(1, 20) + x.come(0, 5) + x.odds(0) + x.ways(1, 1) + x.knows() + x.share(1) + x.errs(1);
        sum += x.teach(7, 5, 1) + x.few(0, 5) + (x.keep(0) ? 1 : 0) + (x.again(0) ? 1 : 0) + x.join(0);
        return sum + x.watch(2, 0, 4, 7) + x.fits() + x.part() + (int) x.row(0);
    }

    /** Asking for the bytes makes some too, so the fewest of some rounds count, less those of an empty one. */
    private static void makesNothing() {
        BoxesWithBeads x = Whole.board();
        int sum = 0;
        long fewest = Long.MAX_VALUE;
        long empty = Long.MAX_VALUE;
        for (int i = 0; i < 8; i++) {
            long before = made();
            sum += everyCall(x);
            long behind = made();
            long again = made();
            fewest = Math.min(fewest, behind - before);
            empty = Math.min(empty, again - behind);
        }
        Due.is("bytes made by 38 calls (" + sum + ")", fewest - empty, 0);
    }

    private static void signsToTheLast() {
        BoxesWithBeads x = new BoxesWithBeads();
        for (int i = 1; i < CALLS; i++) {
            Due.is("call " + i, x.sign(i), i <= 15 ? 4 * i : -1);
        }
        Due.is("the last call", x.count(15), 60);
    }

    private static void gamesToTheLast() {
        BoxesWithBeads x = Due.with("n20/1", "f1");
        Due.rule(x, "w+99*;l-99*;e99");
        x.pay(0);
        // 17 calls to here, and 5 behind.
        int calls = CALLS - 22;
        for (int i = 1; i <= calls; i++) {
            Due.is("all are LOST", x.run(0, 200), 0);
        }
        Due.is("the last calls", x.count(6), 200 * calls);
        Due.is("the last calls", x.count(9), 200 * calls);
        Due.is("the last calls", x.count(0) + x.count(1) + x.count(2), 10000);
    }

    private static void keptToTheLast() {
        BoxesWithBeads x = Due.with("n20/3", "f1");
        x.run(0, 20);
        int had = x.count(0);
        for (int i = 0; i < 100; i++) {
            Due.is("kept", x.keep(i % 3), true);
            Due.is("joined", x.join(i % 3) >= 0, true);
            Due.is("again", x.again(i % 3), true);
            Due.is("as it was", x.count(0), had);
        }
    }

    private static void watchedToTheLast() {
        BoxesWithBeads x = new BoxesWithBeads();
        for (int i = 1; i < CALLS; i++) {
            Due.is("call " + i, x.watch(2, 0, 4, 7), i <= 12 ? i : -1);
        }
        Due.is("the last call", x.fits(), 0);
    }

    /** The dearest calls one behind the other, each of which lays all POSITIONS or goes through many WAYS. */
    private static void dearestCalls() {
        BoxesWithBeads x = Due.with("g3x3k3", "f1", "m1;t1", "f1;m1;r4:1");
        Due.rule(x, "w+3*;d+1;l-1;e2");
        x.pay(0);
        for (int round = 0; round < 10; round++) {
            x.likeness(round % 2 == 0);
            Due.is("BOXES", x.boxes() > 100, true);
            Due.is("too many WAYS", x.ways(0, 3), -3);
            x.come(1, 100);
            Due.is("three FOES", x.teach(7, 50, 0), 3);
            x.few(2, 50);
            Due.is("ODDS", x.odds(2), 0);
            Due.is("all beads", x.count(0) + x.count(1) + x.count(2), 10000);
        }
    }
}
