import java.util.Random;

/** Calls by chance with arguments of all sizes: none may throw, and none may make objects. */
final class RobustTest {
    private static final int CALLS = 44;

    private RobustTest() {
    }

    public static void main(String[] args) {
        for (int seed = 0; seed < 300; seed++) {
            Random random = new Random(seed);
            SignTurn x = new SignTurn();
            if (seed % 5 != 0) {
                Check.tell(x, Oracle.random(random).text(random));
            }
            for (int i = 0; i < 2000; i++) {
                one(x, random, 1 + random.nextInt(CALLS));
            }
        }
        makesNothing();
        Check.end();
    }

    private static int some(Random random) {
        int kind = random.nextInt(20);
        return kind == 0 ? random.nextInt() : kind == 1 ? Integer.MIN_VALUE : kind == 2 ? Integer.MAX_VALUE
            : kind < 5 ? random.nextInt(1200) - 100 : random.nextInt(9) - 1;
    }

    private static long far(Random random) {
        int kind = random.nextInt(8);
        return kind == 0 ? random.nextLong() : kind == 1 ? Long.MIN_VALUE : kind == 2 ? Long.MAX_VALUE
            : kind == 3 ? 1000000000000000L - random.nextInt(5) : some(random);
    }

    private static long one(SignTurn x, Random random, int call) {
        int a = some(random);
        int b = some(random);
        int c = some(random);
        long n = far(random);
        switch (call) {
            case 1:
                return x.feed(random.nextInt(), a, b, c, random.nextInt());
            case 2:
                return x.moor(a);
            case 3:
                return x.fault(a);
            case 4:
                return x.post(a, b);
            case 5:
                return x.by(a, b);
            case 6:
                return x.step();
            case 7:
                return x.steps(a);
            case 8:
                return x.turn(a, b);
            case 9:
                return x.setsOut(a);
            case 10:
                return x.fog(a);
            case 11:
                return x.undo(a);
            case 12:
                return x.judge(a, b);
            case 13:
                return x.perform(a);
            case 14:
                return x.year(a, b);
            case 15:
                return x.at(n);
            case 16:
                return x.arms(n);
            case 17:
                return x.visits(a, n);
            case 18:
                return x.round(a);
            case 19:
                return x.first(a);
            case 20:
                return x.rests();
            case 21:
                return x.homing(a);
            case 22:
                return x.hands(a, b);
            default:
                return other(x, call, a, b, c, n);
        }
    }

    private static long other(SignTurn x, int call, int a, int b, int c, long n) {
        switch (call) {
            case 23:
                return x.fills(a, b);
            case 24:
                return x.filling(a);
            case 25:
                return x.footprints(a);
            case 26:
                return x.shown(a, b);
            case 27:
                return x.look(a);
            case 28:
                return x.fogs(a);
            case 29:
                return x.ahead(a);
            case 30:
                return x.from();
            case 31:
                return x.again();
            case 32:
                return x.trees(a);
            case 33:
                return x.chance(a, b, c);
            case 34:
                return x.mean(a);
            case 35:
                return x.score(a, b, c);
            case 36:
                return x.forces(a);
            case 37:
                return x.best(a);
            case 38:
                return x.numbers(a, b, c);
            case 39:
                return x.write(a, b, n);
            case 40:
                return x.lists(a);
            case 41:
                return x.image(a);
            case 42:
                return x.restore(a);
            default:
                return x.count(a);
        }
    }

    /** The room for all calls of a run is small, so only the constructor may fill some of it. */
    private static void makesNothing() {
        if (!(java.lang.management.ManagementFactory.getThreadMXBean() instanceof com.sun.management.ThreadMXBean bean)) {
            return;
        }
        long me = Thread.currentThread().getId();
        Random random = new Random(1);
        SignTurn x = Check.of(Oracle.random(random).text(random));
        Check.tray(x, 1, 1, 0, 1, 0);
        warmUp(x, random);
        long before = bean.getThreadAllocatedBytes(me);
        long idle = bean.getThreadAllocatedBytes(me) - before;
        for (int call = 1; call <= CALLS; call++) {
            long start = bean.getThreadAllocatedBytes(me);
            for (int i = 0; i < 200; i++) {
                one(x, random, call);
            }
            long made = bean.getThreadAllocatedBytes(me) - start - idle;
            // Less than an object a call: what the measuring itself may make.
            Check.due("call " + call + " makes objects, bytes " + made, 0, made >= 200 * 16 ? 1 : 0);
        }
        long start = bean.getThreadAllocatedBytes(me);
        new SignTurn();
        long made = bean.getThreadAllocatedBytes(me) - start;
        Check.due("an object's bytes " + made, 0, made > 100000 ? 1 : 0);
    }

    private static void warmUp(SignTurn x, Random random) {
        for (int call = 1; call <= CALLS; call++) {
            one(x, random, call);
        }
    }
}
