import java.util.ArrayList;
import java.util.Arrays;
import java.util.HashMap;
import java.util.HashSet;
import java.util.List;
import java.util.Map;
import java.util.PriorityQueue;
import java.util.Random;
import java.util.Set;

/** The document's words done in the plainest way, slow and with the whole library, to hold the class against. */
final class Oracle {
    /** A part of a law, which tells its text and its value (truths: 0 or 1). */
    interface Part {
        String text();

        long value(int post, int arm, int roads, int fog);
    }

    int posts;
    final List<List<Integer>> roads = new ArrayList<>();
    final Set<Integer> homes = new HashSet<>();
    Part turns;
    Part sticks;
    int walker;
    int[] arms;
    int fog;
    int steps;
    int lines;

    static Oracle withoutText() {
        Oracle o = new Oracle();
        o.posts = 1;
        o.roads.add(new ArrayList<>());
        o.homes.add(0);
        o.arms = new int[1];
        return o;
    }

    /** Another one with the same moor, to which other things can be done. */
    Oracle copy() {
        Oracle other = new Oracle();
        other.posts = posts;
        other.roads.addAll(roads);
        other.homes.addAll(homes);
        other.turns = turns;
        other.sticks = sticks;
        other.walker = walker;
        other.arms = arms.clone();
        other.fog = fog;
        other.steps = steps;
        other.lines = lines;
        return other;
    }

    static final class Place {
        final int walker;
        final int[] arms;

        Place(int walker, int[] arms) {
            this.walker = walker;
            this.arms = arms;
        }

        String key() {
            return walker + Arrays.toString(arms);
        }
    }

    Place here() {
        return new Place(walker, arms.clone());
    }

    static int number(int[] arms) {
        int number = 0;
        for (int p = arms.length - 1; p >= 0; p--) {
            number = number * 3 + arms[p];
        }
        return number;
    }

    boolean rests(int p) {
        return homes.contains(p) || roads.get(p).isEmpty();
    }

    /** A step as if there were no homes. */
    Place moved(Place from, int inFog) {
        int p = from.walker;
        int n = roads.get(p).size();
        int[] then = from.arms.clone();
        int arm = then[p];
        if (sticks != null && sticks.value(p, arm, n, inFog) != 0) {
            then[p] = (arm + 1) % n;
            return new Place(p, then);
        }
        long on = turns == null ? 1 : turns.value(p, arm, n, inFog);
        then[p] = (int) ((arm + on) % n + n) % n;
        return new Place(roads.get(p).get(arm), then);
    }

    Place stepped(Place from, int inFog) {
        return rests(from.walker) ? null : moved(from, inFog);
    }

    List<int[]> allArms() {
        List<int[]> all = new ArrayList<>();
        int count = (int) Math.pow(3, posts);
        for (int code = 0; code < count; code++) {
            int[] some = new int[posts];
            boolean can = true;
            int rest = code;
            for (int p = 0; p < posts; p++) {
                some[p] = rest % 3;
                rest /= 3;
                can &= some[p] < Math.max(1, roads.get(p).size());
            }
            if (can) {
                all.add(some);
            }
        }
        return all;
    }

    List<Place> allPlaces() {
        List<Place> all = new ArrayList<>();
        for (int[] some : allArms()) {
            for (int p = 0; p < posts; p++) {
                all.add(new Place(p, some));
            }
        }
        return all;
    }

    /** Places behind 0, 1, 2 .. steps till it rests or is as it was: the last is then the one that came again. */
    List<Place> walk() {
        List<Place> path = new ArrayList<>();
        Set<String> seen = new HashSet<>();
        Place at = here();
        while (at != null) {
            path.add(at);
            if (!seen.add(at.key())) {
                return path;
            }
            at = stepped(at, fog);
        }
        return path;
    }

    boolean walkRests() {
        List<Place> path = walk();
        return rests(path.get(path.size() - 1).walker);
    }

    int roundFrom() {
        List<Place> path = walk();
        String last = path.get(path.size() - 1).key();
        for (int i = 0; i < path.size() - 1; i++) {
            if (path.get(i).key().equals(last)) {
                return i;
            }
        }
        return -1;
    }

    int roundLength() {
        return walk().size() - 1 - roundFrom();
    }

    Place behind(long n) {
        List<Place> path = walk();
        if (n < path.size()) {
            return path.get((int) n);
        }
        if (walkRests()) {
            return path.get(path.size() - 1);
        }
        return path.get((int) (roundFrom() + (n - roundFrom()) % roundLength()));
    }

    long visits(int p, int n) {
        long count = 0;
        Place at = here();
        for (int i = 0; i < n; i++) {
            at = stepped(at, fog);
            if (at == null) {
                break;
            }
            count += at.walker == p ? 1 : 0;
        }
        return count;
    }

    int first(int p) {
        List<Place> path = walk();
        for (int i = 0; i < path.size(); i++) {
            if (path.get(i).walker == p) {
                return i;
            }
        }
        return -1;
    }

    int[] homing() {
        int fewest = -1;
        int by = -1;
        int most = -1;
        int many = 0;
        for (int[] some : allArms()) {
            Place at = new Place(walker, some);
            int n = 0;
            while (at != null && !homes.contains(at.walker) && n < 4400) {
                at = stepped(at, fog);
                n++;
            }
            if (at == null || n >= 4400) {
                continue;
            }
            many++;
            most = Math.max(most, n);
            if (fewest < 0 || n < fewest || n == fewest && number(some) < by) {
                fewest = n;
                by = number(some);
            }
        }
        return new int[] {fewest, by, most, many};
    }

    int[] hands(int goal) {
        PriorityQueue<int[]> open = new PriorityQueue<>((a, b) -> a[0] != b[0] ? a[0] - b[0] : a[1] - b[1]);
        List<Place> places = new ArrayList<>();
        Set<String> done = new HashSet<>();
        places.add(here());
        open.add(new int[] {0, 0, 0});
        while (!open.isEmpty()) {
            int[] best = open.remove();
            Place at = places.get(best[2]);
            if (!done.add(at.key())) {
                continue;
            }
            if (at.walker == goal) {
                return best;
            }
            for (int road = 0; road < roads.get(at.walker).size(); road++) {
                int[] some = at.arms.clone();
                int turned = some[at.walker] == road ? 0 : 1;
                some[at.walker] = road;
                Place then = stepped(new Place(at.walker, some), fog);
                if (then != null) {
                    places.add(then);
                    open.add(new int[] {best[0] + turned, best[1] + 1, places.size() - 1});
                }
            }
        }
        return new int[] {-1, -1};
    }

    /** The posts filled one by one; the steps come last. */
    List<Integer> fills(int p) {
        List<Integer> full = new ArrayList<>();
        int[] some = arms.clone();
        int all = 0;
        while (true) {
            Place at = new Place(p, some);
            int n = 0;
            while (at != null && full.contains(at.walker) && n < 4400) {
                at = stepped(at, fog);
                n++;
            }
            if (at == null || n >= 4400) {
                full.add(all);
                return full;
            }
            full.add(at.walker);
            all += n;
            some = at.arms;
        }
    }

    boolean fits(int[] some, int inFog, long[] prints) {
        Place at = new Place(walker, some);
        for (long print : prints) {
            at = stepped(at, inFog);
            if (at == null || at.walker != print) {
                return false;
            }
        }
        return true;
    }

    List<int[]> fitting(long[] prints) {
        List<int[]> all = new ArrayList<>();
        for (int[] some : allArms()) {
            if (fits(some, fog, prints)) {
                all.add(some);
            }
        }
        return all;
    }

    int shown(long[] prints, int p) {
        int bits = 0;
        for (int[] some : fitting(prints)) {
            bits |= 1 << some[p];
        }
        return bits;
    }

    int look(long[] prints) {
        List<int[]> all = fitting(prints);
        int best = -1;
        int least = Integer.MAX_VALUE;
        for (int p = 0; p < posts && !all.isEmpty(); p++) {
            int[] same = new int[3];
            for (int[] some : all) {
                same[some[p]]++;
            }
            int greatest = Math.max(same[0], Math.max(same[1], same[2]));
            if (greatest < least) {
                least = greatest;
                best = p;
            }
        }
        return best;
    }

    int fogs(long[] prints) {
        int bits = 0;
        for (int f = 0; f < 10; f++) {
            bits |= fits(arms, f, prints) ? 1 << f : 0;
        }
        return bits;
    }

    /** How many stands lead here by just n steps, and from which posts. */
    int[] ahead(int n) {
        int count = 0;
        int bits = 0;
        String goal = here().key();
        for (Place start : allPlaces()) {
            Place at = start;
            for (int i = 0; i < n && at != null; i++) {
                at = stepped(at, fog);
            }
            if (at != null && at.key().equals(goal)) {
                count++;
                bits |= 1 << start.walker;
            }
        }
        return new int[] {count, bits};
    }

    int again() {
        Map<String, String> next = new HashMap<>();
        for (Place start : allPlaces()) {
            Place then = stepped(start, fog);
            next.put(start.key(), then == null ? null : then.key());
        }
        // What is left when stands to which none leads are struck again and again are the rings.
        Map<String, Integer> leading = new HashMap<>();
        for (String to : next.values()) {
            if (to != null) {
                leading.merge(to, 1, Integer::sum);
            }
        }
        List<String> struck = new ArrayList<>();
        for (String from : next.keySet()) {
            if (!leading.containsKey(from)) {
                struck.add(from);
            }
        }
        for (int i = 0; i < struck.size(); i++) {
            String to = next.get(struck.get(i));
            if (to != null && leading.merge(to, -1, Integer::sum) == 0) {
                struck.add(to);
            }
        }
        return next.size() - struck.size();
    }

    /** By the matrix tree theorem. */
    int trees(int goal) {
        int n = posts - 1;
        double[][] m = new double[n][n];
        for (int p = 0; p < posts; p++) {
            for (int to : roads.get(p)) {
                if (p != goal && to != p) {
                    int row = p < goal ? p : p - 1;
                    m[row][row]++;
                    if (to != goal) {
                        m[row][to < goal ? to : to - 1]--;
                    }
                }
            }
        }
        double det = 1;
        for (int k = 0; k < n; k++) {
            int best = k;
            for (int i = k; i < n; i++) {
                best = Math.abs(m[i][k]) > Math.abs(m[best][k]) ? i : best;
            }
            if (Math.abs(m[best][k]) < 1e-9) {
                return 0;
            }
            double[] other = m[k];
            m[k] = m[best];
            m[best] = other;
            det *= best == k ? m[k][k] : -m[k][k];
            for (int i = k + 1; i < n; i++) {
                double factor = m[i][k] / m[k][k];
                for (int j = k; j < n; j++) {
                    m[i][j] -= factor * m[k][j];
                }
            }
        }
        return (int) Math.round(det);
    }

    double chance(int a, int b) {
        double[] likely = new double[posts];
        likely[a] = 1;
        double[] before = null;
        for (int round = 0; round < 20000 && !Arrays.equals(likely, before); round++) {
            before = likely.clone();
            for (int p = 0; p < posts; p++) {
                if (p != a && p != b && !rests(p)) {
                    double sum = 0;
                    for (int to : roads.get(p)) {
                        sum += likely[to];
                    }
                    likely[p] = sum / roads.get(p).size();
                }
            }
        }
        return likely[walker];
    }

    /** Below 0: it isn't sure. */
    double mean() {
        for (int p : reachable(walker)) {
            boolean sure = false;
            for (int q : reachable(p)) {
                sure |= rests(q);
            }
            if (!sure) {
                return -1;
            }
        }
        double[] lasts = new double[posts];
        Set<Integer> near = reachable(walker);
        for (int round = 0; round < 20000; round++) {
            for (int p = 0; p < posts; p++) {
                if (!rests(p) && near.contains(p)) {
                    double sum = 0;
                    for (int to : roads.get(p)) {
                        sum += lasts[to];
                    }
                    lasts[p] = 1 + sum / roads.get(p).size();
                }
            }
        }
        return lasts[walker];
    }

    private Set<Integer> reachable(int from) {
        Set<Integer> found = new HashSet<>(Set.of(from));
        for (int i = 0; i < posts; i++) {
            for (int p : new ArrayList<>(found)) {
                if (!rests(p)) {
                    found.addAll(roads.get(p));
                }
            }
        }
        return found;
    }

    int score(int a, int b, int n) {
        int[] some = arms.clone();
        int hits = 0;
        for (int i = 0; i < n; i++) {
            Place at = new Place(walker, some);
            int went = 0;
            while (at != null && at.walker != a && at.walker != b && went < 4400) {
                at = stepped(at, fog);
                went++;
            }
            if (at == null || went >= 4400) {
                return -5;
            }
            hits += at.walker == a ? 1 : 0;
            some = at.arms;
        }
        return hits;
    }

    boolean within(int at, int goal, boolean first, int n, Map<String, Boolean> known) {
        if (at == goal) {
            return true;
        }
        if (n == 0 || rests(at)) {
            return false;
        }
        String key = at + " " + first + " " + n;
        if (!known.containsKey(key)) {
            boolean can = !first;
            for (int to : roads.get(at)) {
                boolean does = within(to, goal, !first, n - 1, known);
                can = first ? can || does : can && does;
            }
            known.put(key, can);
        }
        return known.get(key);
    }

    int forces(int goal) {
        Map<String, Boolean> known = new HashMap<>();
        for (int n = 0; n <= 40; n++) {
            if (within(walker, goal, true, n, known)) {
                return n;
            }
        }
        return -1;
    }

    int best(int goal) {
        int n = forces(goal);
        for (int road = 0; n > 0 && road < roads.get(walker).size(); road++) {
            if (within(roads.get(walker).get(road), goal, false, n - 1, new HashMap<>())) {
                return road;
            }
        }
        return -1;
    }

    /** 0, or why it can't be. */
    int deed(long v) {
        if (v == 0) {
            Place then = stepped(here(), fog);
            if (then == null) {
                return 2;
            }
            walker = then.walker;
            arms = then.arms;
            steps++;
            return 0;
        }
        if (v >= 10 && v <= 19) {
            fog = (int) v - 10;
            return 0;
        }
        if (v >= 20 && v <= 29 && v - 20 < posts) {
            walker = (int) v - 20;
            return 0;
        }
        if (v >= 100 && v <= 199) {
            int p = (int) (v - 100) / 10;
            int road = (int) v % 10;
            if (p < posts && road < roads.get(p).size()) {
                arms[p] = road;
                return 0;
            }
        }
        return 1;
    }

    int year(int seed, int times) {
        int x = seed;
        int could = 0;
        for (int i = 0; i < times; i++) {
            int[] drawn = new int[3];
            int used = 1;
            x = 1103515245 * x + 12345;
            int kind = (x >>> 16) % 6;
            used = kind < 3 ? 0 : kind == 5 ? 2 : 1;
            for (int k = 0; k < used; k++) {
                x = 1103515245 * x + 12345;
                drawn[k] = x >>> 16;
            }
            long v = kind < 3 ? 0 : kind == 3 ? 10 + drawn[0] % 10 : kind == 4 ? 20 + drawn[0] % 6
                : 100 + drawn[0] % 6 * 10 + drawn[1] % 3;
            could += deed(v) == 0 ? 1 : 0;
        }
        return could;
    }

    // ---- moors by chance

    static Oracle random(Random random) {
        Oracle o = new Oracle();
        o.posts = 1 + random.nextInt(6);
        for (int p = 0; p < o.posts; p++) {
            List<Integer> some = new ArrayList<>();
            int n = random.nextInt(8) == 0 ? 0 : 1 + random.nextInt(3);
            for (int i = 0; i < n; i++) {
                some.add(random.nextInt(o.posts));
            }
            o.roads.add(some);
            if (random.nextInt(6) == 0) {
                o.homes.add(p);
            }
        }
        o.arms = new int[o.posts];
        for (int p = 0; p < o.posts; p++) {
            if (!o.roads.get(p).isEmpty() && random.nextBoolean()) {
                o.arms[p] = random.nextInt(o.roads.get(p).size());
            }
        }
        o.walker = random.nextInt(o.posts);
        o.fog = random.nextInt(10);
        o.turns = random.nextInt(3) == 0 ? null : shortLaw(random, false);
        o.sticks = random.nextInt(2) == 0 ? null : shortLaw(random, true);
        return o;
    }

    /** One of those that leave a text below 900 bytes. */
    private static Part shortLaw(Random random, boolean truth) {
        Part law = null;
        while (law == null || law.text().length() > 250) {
            law = truth ? truth(random, 0) : sum(random, 0);
        }
        return law;
    }

    String text(Random random) {
        StringBuilder out = new StringBuilder("moor posts " + posts + ";");
        lines = 1;
        for (int p = 0; p < posts; p++) {
            for (int to : roads.get(p)) {
                line(out, "road " + p + " " + to);
            }
            if (arms[p] != 0) {
                line(out, "arm " + p + (random.nextBoolean() ? " " : "\n") + arms[p]);
            }
            if (homes.contains(p)) {
                line(out, "home 00" + p);
            }
        }
        if (random.nextBoolean()) {
            line(out, "walker 0");
            line(out, "fog 3");
        }
        line(out, "walker " + walker);
        line(out, "fog " + fog + " ");
        if (turns != null) {
            line(out, "turns : " + turns.text());
        }
        if (sticks != null) {
            line(out, "sticks:" + sticks.text());
        }
        return out.toString();
    }

    private void line(StringBuilder out, String line) {
        out.append(line).append(';');
        lines++;
    }

    private static long kept(long value) {
        return Math.max(-1000000, Math.min(1000000, value));
    }

    private static Part part(String text, ToLong value) {
        return new Part() {
            public String text() {
                return text;
            }

            public long value(int post, int arm, int roads, int fog) {
                return value.of(post, arm, roads, fog);
            }
        };
    }

    interface ToLong {
        long of(int post, int arm, int roads, int fog);
    }

    private static Part sum(Random random, int depth) {
        Part left = term(random, depth);
        for (int i = random.nextInt(3); i > 0; i--) {
            Part a = left;
            Part b = term(random, depth);
            left = random.nextBoolean()
                ? part(a.text() + " + " + b.text(), (p, r, n, f) -> kept(a.value(p, r, n, f) + b.value(p, r, n, f)))
                : part(a.text() + "-" + b.text(), (p, r, n, f) -> kept(a.value(p, r, n, f) - b.value(p, r, n, f)));
        }
        return left;
    }

    private static Part term(Random random, int depth) {
        Part left = atom(random, depth);
        for (int i = random.nextInt(5) - 2; i > 0; i--) {
            Part a = left;
            Part b = atom(random, depth);
            left = part(a.text() + "* " + b.text(), (p, r, n, f) -> kept(a.value(p, r, n, f) * b.value(p, r, n, f)));
        }
        return left;
    }

    private static Part atom(Random random, int depth) {
        int kind = random.nextInt(depth > 2 ? 6 : 9);
        if (kind == 0) {
            int n = random.nextInt(4) == 0 ? random.nextInt(1000) : random.nextInt(4);
            return part("" + n, (p, r, k, f) -> n);
        }
        if (kind == 1) {
            return part("999 * 999", (p, r, n, f) -> 998001);
        }
        if (kind == 2) {
            return part("post", (p, r, n, f) -> p);
        }
        if (kind == 3) {
            return part("arm", (p, r, n, f) -> r);
        }
        if (kind == 4) {
            return part("roads", (p, r, n, f) -> n);
        }
        if (kind == 5) {
            return part("fog", (p, r, n, f) -> f);
        }
        if (kind == 6) {
            Part inner = sum(random, depth + 1);
            return part("(" + inner.text() + ")", inner::value);
        }
        Part cond = truth(random, depth + 1);
        Part yes = sum(random, depth + 1);
        Part no = sum(random, depth + 1);
        return part("if " + cond.text() + " then " + yes.text() + " else " + no.text() + " end",
            (p, r, n, f) -> cond.value(p, r, n, f) != 0 ? yes.value(p, r, n, f) : no.value(p, r, n, f));
    }

    private static Part truth(Random random, int depth) {
        Part left = both(random, depth);
        for (int i = random.nextInt(4) - 2; i > 0; i--) {
            Part a = left;
            Part b = both(random, depth);
            left = part(a.text() + " or " + b.text(),
                (p, r, n, f) -> a.value(p, r, n, f) != 0 || b.value(p, r, n, f) != 0 ? 1 : 0);
        }
        return left;
    }

    private static Part both(Random random, int depth) {
        Part left = unit(random, depth);
        for (int i = random.nextInt(4) - 2; i > 0; i--) {
            Part a = left;
            Part b = unit(random, depth);
            left = part(a.text() + " and " + b.text(),
                (p, r, n, f) -> a.value(p, r, n, f) != 0 && b.value(p, r, n, f) != 0 ? 1 : 0);
        }
        return left;
    }

    private static Part unit(Random random, int depth) {
        int kind = random.nextInt(depth > 2 ? 3 : 5);
        if (kind == 3) {
            Part inner = unit(random, depth + 1);
            return part("not " + inner.text(), (p, r, n, f) -> 1 - inner.value(p, r, n, f));
        }
        if (kind == 4) {
            Part inner = truth(random, depth + 1);
            return part("[" + inner.text() + "]", inner::value);
        }
        Part a = sum(random, depth + 1);
        Part b = sum(random, depth + 1);
        if (kind == 0) {
            return part(a.text() + "=" + b.text(), (p, r, n, f) -> a.value(p, r, n, f) == b.value(p, r, n, f) ? 1 : 0);
        }
        if (kind == 1) {
            return part(a.text() + " < " + b.text(), (p, r, n, f) -> a.value(p, r, n, f) < b.value(p, r, n, f) ? 1 : 0);
        }
        return part(a.text() + ">" + b.text(), (p, r, n, f) -> a.value(p, r, n, f) > b.value(p, r, n, f) ? 1 : 0);
    }
}
