import java.lang.reflect.Method;
import java.lang.reflect.Modifier;
import java.nio.charset.StandardCharsets;
import java.util.Arrays;
import java.util.HashMap;
import java.util.Map;
import java.util.Random;

/** Whole runs of calls by chance, good ones and refused ones mixed: each answer held against Plain's. */
final class RunTest {
    private static final int RUNS = 500;
    private static final int CALLS = 512;
    private static final long FARTHEST = 1000000000000000L;
    private static final int[] ODD = {-1, -2, 4, 5, 6, 7, 10, 11, 13, 40, 41, 99, 100, 1000, Integer.MIN_VALUE, Integer.MAX_VALUE};
    /** The calls that are made one by one, and by which arguments: a number n stands for one of 0 to n - 1. */
    private static final String[] ASKED = {"fault 3", "post post 14", "by post 2", "step", "steps 101", "turn post 3", "setsOut post",
        "fog 10", "undo 4", "undo 12", "judge 4 4", "perform 4", "year seed 42", "at far", "arms far", "visits post far", "round 2",
        "first post", "rests", "homing 4", "hands post 2", "fills post 7", "filling post", "footprints 4", "shown 4 post", "look 4",
        "fogs 4", "ahead 8", "from", "again", "trees post", "chance post post 2", "mean 2", "score post post 1001", "forces post",
        "best post", "numbers 4 4 42", "write 4 9 deed", "write 4 40 long", "lists 4", "image 2", "restore 2", "count 11",
        "feed seed seed seed seed seed"};
    private static final Map<String, Method> CLASS = methods(SignTurn.class);
    private static final Map<String, Method> PLAIN = methods(Plain.class);

    private final int seed;
    private final Random random;
    private final SignTurn x = new SignTurn();
    private final Plain plain = new Plain();
    private int calls;

    private RunTest(int seed) {
        this.seed = seed;
        random = new Random(seed);
    }

    public static void main(String[] args) throws ReflectiveOperationException {
        for (int seed = 0; seed < RUNS; seed++) {
            new RunTest(seed).run();
        }
        Check.end();
    }

    private static Map<String, Method> methods(Class<?> from) {
        Map<String, Method> found = new HashMap<>();
        for (Method method : from.getDeclaredMethods()) {
            if (!Modifier.isPrivate(method.getModifiers()) && !Modifier.isStatic(method.getModifiers())) {
                found.put(method.getName(), method);
            }
        }
        return found;
    }

    private void run() throws ReflectiveOperationException {
        if (random.nextInt(8) != 0) {
            tell();
        }
        while (calls < CALLS) {
            int kind = random.nextInt(60);
            if (kind == 0) {
                tell();
            } else if (kind < 4) {
                prints();
            } else if (kind < 6) {
                deeds();
            } else if (kind == 6) {
                counts();
            } else {
                ask(ASKED[random.nextInt(ASKED.length)].split(" "));
            }
        }
    }

    /** One call of both, as long as the object promises something; what the plain one answered. */
    private long call(String name, Object... args) throws ReflectiveOperationException {
        if (calls >= CALLS) {
            return 0;
        }
        calls++;
        long want = ((Number) PLAIN.get(name).invoke(plain, args)).longValue();
        long got = ((Number) CLASS.get(name).invoke(x, args)).longValue();
        Check.due("run " + seed + ", call " + calls + ": " + name + Arrays.toString(args), want, got);
        return want;
    }

    private void ask(String... told) throws ReflectiveOperationException {
        Object[] args = new Object[told.length - 1];
        for (int i = 0; i < args.length; i++) {
            args[i] = argument(told[i + 1]);
        }
        call(told[0], args);
    }

    private Object argument(String kind) {
        switch (kind) {
            case "seed":
                return random.nextInt();
            case "long":
                return random.nextLong();
            case "far":
                return far();
            case "deed":
                return deed();
            default:
                int bound = kind.equals("post") ? plain.o.posts : Integer.parseInt(kind);
                return random.nextInt(15) == 0 ? ODD[random.nextInt(ODD.length)] : random.nextInt(bound);
        }
    }

    private long far() {
        switch (random.nextInt(6)) {
            case 0:
                return FARTHEST - random.nextInt(3);
            case 1:
                return (long) (FARTHEST * random.nextDouble());
            case 2:
                return new long[] {-1, FARTHEST + 1, Long.MIN_VALUE, Long.MAX_VALUE}[random.nextInt(4)];
            default:
                return random.nextInt(random.nextBoolean() ? 10 : 3000);
        }
    }

    private long deed() {
        int kind = random.nextInt(20);
        return kind < 10 ? 0 : kind < 13 ? 10 + random.nextInt(10) : kind < 15 ? 20 + random.nextInt(plain.o.posts)
            : kind < 19 ? 100 + 10 * random.nextInt(plain.o.posts) + random.nextInt(3) : random.nextInt(320) - 100;
    }

    /** A text, now and then a changed one, if what it is can be told. */
    private void tell() throws ReflectiveOperationException {
        Oracle o = Oracle.random(random);
        String text = o.text(random);
        plain.moors.put(text, o);
        if (random.nextInt(3) == 0) {
            int at = random.nextInt(text.length());
            text = text.substring(0, at) + "?;1 a(".charAt(random.nextInt(6)) + text.substring(at + random.nextInt(2));
        }
        byte[] bytes = Arrays.copyOf(text.getBytes(StandardCharsets.ISO_8859_1), (text.length() + 19) / 20 * 20);
        for (int i = 0; i < bytes.length; i += 20) {
            call("feed", four(bytes, i), four(bytes, i + 4), four(bytes, i + 8), four(bytes, i + 12), four(bytes, i + 16));
        }
        int n = random.nextInt(12) == 0 ? ODD[random.nextInt(ODD.length)] : text.length();
        if (plain.canTell(n)) {
            call("moor", n);
        }
        call("fault", 0);
        call("fault", 1);
    }

    private static int four(byte[] bytes, int i) {
        return bytes[i] << 24 | bytes[i + 1] << 16 | bytes[i + 2] << 8 | bytes[i + 3];
    }

    /** Footprints as they are by some arms, or nearly. */
    private void prints() throws ReflectiveOperationException {
        int tray = random.nextInt(4);
        int n = random.nextInt(random.nextInt(4) == 0 ? 10 : 5);
        call("numbers", tray, random.nextInt(4), n);
        Oracle o = plain.o;
        int[] some = random.nextBoolean() ? o.arms : o.allArms().get(random.nextInt(o.allArms().size()));
        Oracle.Place at = new Oracle.Place(o.walker, some);
        for (int i = 0; i < n; i++) {
            at = at == null ? null : o.stepped(at, o.fog);
            boolean so = at != null && random.nextInt(30) != 0;
            call("write", tray, i, so ? at.walker : (long) random.nextInt(o.posts + random.nextInt(2)));
        }
        for (String name : new String[] {"footprints", "look", "fogs"}) {
            call(name, tray);
        }
        call("shown", tray, random.nextInt(o.posts));
    }

    private void deeds() throws ReflectiveOperationException {
        int tray = random.nextInt(4);
        int n = random.nextInt(20);
        call("numbers", tray, random.nextInt(4), n);
        for (int i = 0; i < n; i++) {
            call("write", tray, i, deed());
        }
        for (int what = 0; what < 4; what++) {
            call("judge", tray, what);
        }
        call("perform", tray);
        counts();
    }

    private void counts() throws ReflectiveOperationException {
        for (int what = 0; what < 10; what++) {
            call("count", what);
        }
    }
}
