import java.util.ArrayDeque;
import java.util.Arrays;
import java.util.Deque;
import java.util.List;
import java.util.Random;

/** Moors by chance: each question of the class held against the plain way of the oracle. */
final class OracleTest {
    private static final long FARTHEST = 1000000000000000L;

    private static String run;

    private OracleTest() {
    }

    private static void due(String call, long want, long got) {
        Check.due(run + ": " + call, want, got);
    }

    public static void main(String[] args) {
        for (int seed = 0; seed < 400; seed++) {
            Random random = new Random(seed);
            Oracle o = Oracle.random(random);
            String text = o.text(random);
            run = "moor " + seed + " " + text;
            SignTurn x = new SignTurn();
            due("moor", o.lines, Check.tell(x, text));
            asks(x, o, random);
            deeds(x, o, random);
            asks(x, o, random);
        }
        Check.end();
    }

    private static void asks(SignTurn x, Oracle o, Random random) {
        String before = Check.told(x);
        state(x, o);
        goes(x, o, random);
        homes(x, o);
        prints(x, o, random);
        aheads(x, o);
        astray(x, o);
        byTurns(x, o);
        if (!before.equals(Check.told(x))) {
            due("questions changed " + before, 0, 1);
        }
    }

    private static void state(SignTurn x, Oracle o) {
        int all = 0;
        int homes = 0;
        for (int p = 0; p < o.posts; p++) {
            all += o.roads.get(p).size();
            homes |= o.homes.contains(p) ? 1 << p : 0;
            due("post 0 of " + p, o.arms[p], x.post(p, 0));
            due("post 1 of " + p, o.roads.get(p).size(), x.post(p, 1));
            due("post 2 of " + p, o.homes.contains(p) ? 1 : 0, x.post(p, 2));
            for (int i = 0; i < 3; i++) {
                boolean told = i < o.roads.get(p).size();
                due("post 10 + " + i + " of " + p, told ? o.roads.get(p).get(i) : -2, x.post(p, 10 + i));
            }
            boolean leads = !o.roads.get(p).isEmpty();
            Oracle.Place then = leads ? o.moved(new Oracle.Place(p, o.arms), o.fog) : null;
            due("by 0 of " + p, leads ? then.walker : -5, x.by(p, 0));
            due("by 1 of " + p, leads ? then.arms[p] : -5, x.by(p, 1));
        }
        int[] want = {o.posts, all, homes, o.walker, Oracle.number(o.arms), o.fog, o.steps};
        for (int what = 0; what < want.length; what++) {
            due("count " + what, want[what], x.count(what));
        }
    }

    private static void goes(SignTurn x, Oracle o, Random random) {
        List<Oracle.Place> path = o.walk();
        boolean rests = o.walkRests();
        due("rests", rests ? path.size() - 1 : -1, x.rests());
        due("round 0", rests ? -1 : o.roundFrom(), x.round(0));
        due("round 1", rests ? -1 : o.roundLength(), x.round(1));
        long[] some = {0, 1, 2, random.nextInt(50), path.size() - 2, path.size() - 1, path.size(), path.size() + 1,
            path.size() + random.nextInt(3000), FARTHEST, FARTHEST - random.nextInt(1000000)};
        for (long n : some) {
            if (n >= 0) {
                due("at " + n, o.behind(n).walker, x.at(n));
                due("arms " + n, Oracle.number(o.behind(n).arms), x.arms(n));
            }
        }
        for (int p = 0; p < o.posts; p++) {
            due("first " + p, o.first(p), x.first(p));
            for (int n : new int[] {0, 1, random.nextInt(40), path.size() - 1, path.size(), random.nextInt(9000)}) {
                due("visits " + p + " " + n, o.visits(p, n), x.visits(p, n));
            }
            if (!rests) {
                // Far ahead each round adds as many visits as the one ahead of it.
                long period = o.roundLength();
                long more = (FARTHEST - 20000) / period;
                long near = FARTHEST - more * period;
                long each = o.visits(p, (int) (near + period)) - o.visits(p, (int) near);
                due("visits far " + p, o.visits(p, (int) near) + more * each, x.visits(p, FARTHEST));
            }
        }
        lists(o, random);
    }

    /**
     * No call tells a tray's number, but fogs() tells whether a walk is as a tray has it. RESTING is no STEP there, so
     * a second moor has the road of the resting post lead back to it, which looks the same.
     */
    private static void lists(Oracle o, Random random) {
        SignTurn y = Check.of(o.text(random));
        int n = 1 + random.nextInt(8);
        y.numbers(2, random.nextInt(4), n);
        due("lists", n, y.lists(2));
        Oracle.Place last = o.behind(FARTHEST);
        boolean home = o.homes.contains(last.walker);
        List<Integer> leads = o.roads.get(last.walker);
        int arm = o.arms[last.walker];
        if (o.walkRests()) {
            o.homes.remove(last.walker);
            o.roads.set(last.walker, List.of(last.walker));
            o.arms[last.walker] = 0;
        }
        String text = o.text(random);
        due("moor of lists", o.lines, Check.tell(y, text));
        due("lists as they come", 1, y.fogs(2) >> o.fog & 1);
        o.roads.set(last.walker, leads);
        o.arms[last.walker] = arm;
        if (home) {
            o.homes.add(last.walker);
        }
    }

    private static void homes(SignTurn x, Oracle o) {
        int[] homing = o.homing();
        for (int what = 0; what < 4; what++) {
            due("homing " + what, homing[what], x.homing(what));
        }
        for (int p = 0; p < o.posts; p++) {
            int[] hands = o.hands(p);
            due("hands 0 to " + p, hands[0], x.hands(p, 0));
            due("hands 1 to " + p, hands[1], x.hands(p, 1));
            List<Integer> fills = o.fills(p);
            int many = fills.size() - 1;
            for (int i = 0; i < 7; i++) {
                due("fills " + p + " " + i, i < many ? fills.get(i) : -1, x.fills(p, i));
            }
            due("filling " + p, fills.get(many), x.filling(p));
        }
    }

    private static void prints(SignTurn x, Oracle o, Random random) {
        for (int times = 0; times < 6; times++) {
            long[] told = new long[1 + random.nextInt(times < 3 ? 3 : 8)];
            int[] some = o.allArms().get(random.nextInt(o.allArms().size()));
            Oracle.Place at = new Oracle.Place(o.walker, times % 2 == 0 ? some : o.arms);
            for (int i = 0; i < told.length; i++) {
                at = at == null ? null : o.stepped(at, o.fog);
                told[i] = at == null ? random.nextInt(o.posts) : at.walker;
            }
            if (random.nextInt(4) == 0) {
                told[random.nextInt(told.length)] = random.nextInt(o.posts);
            }
            Check.tray(x, 1, random.nextInt(4), told);
            String of = Arrays.toString(told);
            due("footprints " + of, o.fitting(told).size(), x.footprints(1));
            for (int p = 0; p < o.posts; p++) {
                due("shown " + of + " " + p, o.shown(told, p), x.shown(1, p));
            }
            due("look " + of, o.look(told), x.look(1));
            due("fogs " + of, o.fogs(told), x.fogs(1));
        }
    }

    private static void aheads(SignTurn x, Oracle o) {
        for (int n = 0; n <= 6; n++) {
            due("ahead " + n, o.ahead(n)[0], x.ahead(n));
        }
        due("from", o.ahead(1)[1], x.from());
        due("again", o.again(), x.again());
        for (int p = 0; p < o.posts; p++) {
            due("trees " + p, o.trees(p), x.trees(p));
        }
    }

    private static void astray(SignTurn x, Oracle o) {
        double mean = o.mean();
        if (mean < 0) {
            due("mean 0", -1, x.mean(0));
            due("mean 1", -1, x.mean(1));
        } else {
            near("mean", mean, x.mean(0), x.mean(1));
        }
        for (int a = 0; a < o.posts; a++) {
            for (int b = 0; b < o.posts; b++) {
                if (a == b) {
                    due("chance of one", -2, x.chance(a, b, 0));
                    continue;
                }
                near("chance " + a + " " + b, o.chance(a, b), x.chance(a, b, 0), x.chance(a, b, 1));
                for (int n : new int[] {0, 1, 2, 7, 30}) {
                    due("score " + a + " " + b + " " + n, o.score(a, b, n), x.score(a, b, n));
                }
            }
        }
    }

    private static void near(String what, double want, long above, long below) {
        boolean lowest = below > 0 && above >= 0 && divisor(above, below) == 1;
        due(what + " in lowest terms " + above + " " + below, 1, lowest ? 1 : 0);
        boolean is = Math.abs(want - (double) above / below) < 1e-6 * Math.max(1, want);
        due(what + " " + want + " is " + above + " by " + below, 1, is ? 1 : 0);
    }

    private static long divisor(long a, long b) {
        return b == 0 ? a : divisor(b, a % b);
    }

    private static void byTurns(SignTurn x, Oracle o) {
        for (int p = 0; p < o.posts; p++) {
            due("forces " + p, o.forces(p), x.forces(p));
            due("best " + p, o.best(p), x.best(p));
        }
    }

    // ---- deeds, undone and brought back

    private static final class Kept {
        final int walker;
        final int[] arms;
        final int fog;
        final int steps;

        Kept(Oracle o) {
            walker = o.walker;
            arms = o.arms.clone();
            fog = o.fog;
            steps = o.steps;
        }

        void bringBack(Oracle o) {
            o.walker = walker;
            o.arms = arms.clone();
            o.fog = fog;
            o.steps = steps;
        }
    }

    private static void deeds(SignTurn x, Oracle o, Random random) {
        Deque<Kept> past = new ArrayDeque<>();
        Kept[] images = new Kept[2];
        for (int i = 0; i < 60; i++) {
            Kept before = new Kept(o);
            int kind = random.nextInt(11);
            int done = 0;
            if (kind == 9) {
                undo(x, o, past, 1 + random.nextInt(4));
            } else if (kind == 10) {
                images(x, o, past, images, random);
            } else {
                done = deed(x, o, random, kind);
            }
            if (done > 0) {
                past.addLast(before);
                if (past.size() > 10) {
                    past.removeFirst();
                }
            }
            due("count 7 behind " + kind, past.size(), x.count(7));
            state(x, o);
        }
    }

    private static int deed(SignTurn x, Oracle o, Random random, int kind) {
        if (kind <= 1) {
            int why = o.deed(0);
            due("step", why == 0 ? o.walker : -12, x.step());
            return why == 0 ? 1 : 0;
        }
        if (kind == 2) {
            int n = 1 + random.nextInt(99);
            int done = 0;
            while (done < n && o.deed(0) == 0) {
                done++;
            }
            due("steps " + n, done, x.steps(n));
            return done;
        }
        if (kind <= 5) {
            return single(x, o, random, kind);
        }
        if (kind == 6) {
            int seed = random.nextInt();
            int times = 1 + random.nextInt(40);
            int could = o.year(seed, times);
            due("year " + seed + " " + times, could, x.year(seed, times));
            return could;
        }
        return tray(x, o, random);
    }

    private static int single(SignTurn x, Oracle o, Random random, int kind) {
        int p = random.nextInt(7) - 1;
        int road = random.nextInt(5) - 1;
        int was = kind == 3 ? p >= 0 && p < o.posts ? o.arms[p] : 0 : kind == 4 ? o.walker : o.fog;
        int fog = random.nextInt(12) - 1;
        int why = kind == 3 ? p < 0 || road < 0 ? 1 : o.deed(100 + 10 * p + road)
            : kind == 4 ? p < 0 ? 1 : o.deed(20 + p) : fog < 0 || fog > 9 ? 1 : o.deed(10 + fog);
        int got = kind == 3 ? x.turn(p, road) : kind == 4 ? x.setsOut(p) : x.fog(fog);
        due("kind " + kind + " of " + p + " " + road + " " + fog, why == 0 ? was : -11, got);
        return why == 0 ? 1 : 0;
    }

    private static int tray(SignTurn x, Oracle o, Random random) {
        long[] told = new long[random.nextInt(41)];
        for (int i = 0; i < told.length; i++) {
            int kind = random.nextInt(40);
            told[i] = kind < 20 ? 0 : kind < 26 ? 10 + random.nextInt(10) : kind < 32 ? 20 + random.nextInt(o.posts)
                : kind < 38 ? 100 + 10 * random.nextInt(o.posts) + random.nextInt(2) : random.nextInt(300) - 50;
        }
        Check.tray(x, 0, 1 + random.nextInt(3), told);
        int done = 0;
        int why = 0;
        while (done < told.length && why == 0) {
            why = o.deed(told[done]);
            done += why == 0 ? 1 : 0;
        }
        String of = Arrays.toString(told);
        due("judge 0 " + of, done < told.length ? done : -1, x.judge(0, 0));
        due("judge 1 " + of, why, x.judge(0, 1));
        due("judge 2 " + of, o.walker, x.judge(0, 2));
        due("judge 3 " + of, Oracle.number(o.arms), x.judge(0, 3));
        due("perform " + of, done, x.perform(0));
        return done;
    }

    private static void undo(SignTurn x, Oracle o, Deque<Kept> past, int n) {
        if (n > past.size()) {
            due("undo " + n, -3, x.undo(n));
            return;
        }
        for (int i = 0; i < n; i++) {
            past.removeLast().bringBack(o);
        }
        due("undo " + n, past.size(), x.undo(n));
    }

    private static void images(SignTurn x, Oracle o, Deque<Kept> past, Kept[] images, Random random) {
        int i = random.nextInt(2);
        if (random.nextBoolean()) {
            images[i] = new Kept(o);
            due("image", 0, x.image(i));
        } else if (images[i] == null) {
            due("restore", -5, x.restore(i));
        } else {
            images[i].bringBack(o);
            past.clear();
            due("restore", 0, x.restore(i));
        }
    }
}
