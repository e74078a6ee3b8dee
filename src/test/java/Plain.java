import java.nio.charset.StandardCharsets;
import java.util.ArrayDeque;
import java.util.Arrays;
import java.util.Deque;
import java.util.HashMap;
import java.util.List;
import java.util.Map;

/** A second whole class over the oracle: each call's refusals in the order in which the document tells them. */
final class Plain {
    private static final long FARTHEST = 1000000000000000L;
    /** No fraction of at most six posts with three roads each needs a greater number below. */
    private static final int MOST_BELOW = 729;

    /** Moors whose texts are known; a text that isn't here must have a fault. */
    final Map<String, Oracle> moors = new HashMap<>();
    Oracle o = Oracle.withoutText();
    private StringBuilder tape = new StringBuilder();
    private int fault;
    private int faultPlace = -1;
    private final Deque<Oracle> past = new ArrayDeque<>();
    private final long[][] trays = new long[4][];
    private final int[] sorts = new int[4];
    private final Oracle[] images = new Oracle[2];

    private boolean none(int p) {
        return p < 0 || p >= o.posts;
    }

    private static boolean out(long n, long least, long most) {
        return n < least || n > most;
    }

    // ---- the moor

    int feed(int a, int b, int c, int d, int e) {
        if (tape.length() > 880) {
            return -5;
        }
        for (int four : new int[] {a, b, c, d, e}) {
            byte[] bytes = {(byte) (four >> 24), (byte) (four >> 16), (byte) (four >> 8), (byte) four};
            tape.append(new String(bytes, StandardCharsets.ISO_8859_1));
        }
        return tape.length();
    }

    /** Whether it can be told here what a text of so many bytes is. */
    boolean canTell(int n) {
        return out(n, 0, tape.length()) || moors.containsKey(tape.substring(0, n))
            || FaultTest.plain(tape.substring(0, n))[0] != 0;
    }

    int moor(int n) {
        if (out(n, 0, tape.length())) {
            return -3;
        }
        String text = tape.substring(0, n);
        tape = new StringBuilder();
        int[] read = FaultTest.plain(text);
        fault = read[0];
        faultPlace = fault == 0 ? -1 : read[1];
        if (fault != 0) {
            return -30 - fault;
        }
        o = moors.get(text).copy();
        past.clear();
        return o.lines;
    }

    int fault(int what) {
        return what == 0 ? fault : what == 1 ? faultPlace : -1;
    }

    int post(int p, int what) {
        if (none(p)) {
            return -2;
        }
        List<Integer> roads = o.roads.get(p);
        if (what >= 10) {
            return what - 10 < roads.size() ? roads.get(what - 10) : -2;
        }
        return what == 0 ? o.arms[p] : what == 1 ? roads.size() : what == 2 ? o.homes.contains(p) ? 1 : 0 : -2;
    }

    int by(int p, int what) {
        if (none(p) || out(what, 0, 1)) {
            return -2;
        }
        if (o.roads.get(p).isEmpty()) {
            return -5;
        }
        Oracle.Place then = o.moved(new Oracle.Place(p, o.arms), o.fog);
        return what == 0 ? then.walker : then.arms[p];
    }

    // ---- deeds

    private int did(Oracle before, int many) {
        if (many > 0) {
            past.addLast(before);
        }
        if (past.size() > 10) {
            past.removeFirst();
        }
        return many;
    }

    /** A deed of its own: 0, or the code of why it can't be. */
    private int alone(long deed) {
        Oracle before = o.copy();
        int why = o.deed(deed);
        did(before, why == 0 ? 1 : 0);
        return why == 0 ? 0 : -10 - why;
    }

    int step() {
        int code = alone(0);
        return code == 0 ? o.walker : code;
    }

    int steps(int n) {
        if (out(n, 1, 99)) {
            return -3;
        }
        Oracle before = o.copy();
        int many = 0;
        while (many < n && o.deed(0) == 0) {
            many++;
        }
        return did(before, many);
    }

    int turn(int p, int road) {
        if (none(p) || out(road, 0, 2)) {
            return -11;
        }
        int was = o.arms[p];
        int code = alone(100 + 10L * p + road);
        return code == 0 ? was : code;
    }

    int setsOut(int p) {
        int was = o.walker;
        int code = none(p) ? -11 : alone(20 + p);
        return code == 0 ? was : code;
    }

    int fog(int n) {
        int was = o.fog;
        int code = out(n, 0, 9) ? -11 : alone(10 + n);
        return code == 0 ? was : code;
    }

    int undo(int n) {
        if (out(n, 1, past.size())) {
            return -3;
        }
        for (int i = 0; i < n; i++) {
            o = past.removeLast();
        }
        return past.size();
    }

    private int noTray(int tray) {
        return out(tray, 0, 3) ? -2 : trays[tray] == null ? -6 : 0;
    }

    int judge(int tray, int what) {
        if (out(tray, 0, 3) || out(what, 0, 3)) {
            return -2;
        }
        if (trays[tray] == null) {
            return -6;
        }
        Oracle then = o.copy();
        int place = -1;
        int why = 0;
        for (int i = 0; i < trays[tray].length && why == 0; i++) {
            why = then.deed(trays[tray][i]);
            place = why == 0 ? -1 : i;
        }
        return new int[] {place, why, then.walker, Oracle.number(then.arms)}[what];
    }

    int perform(int tray) {
        if (noTray(tray) != 0) {
            return noTray(tray);
        }
        Oracle before = o.copy();
        int many = 0;
        while (many < trays[tray].length && o.deed(trays[tray][many]) == 0) {
            many++;
        }
        return did(before, many);
    }

    int year(int seed, int times) {
        if (out(times, 1, 40)) {
            return -3;
        }
        Oracle before = o.copy();
        return did(before, o.year(seed, times));
    }

    // ---- going

    int at(long n) {
        return out(n, 0, FARTHEST) ? -3 : o.behind(n).walker;
    }

    int arms(long n) {
        return out(n, 0, FARTHEST) ? -3 : Oracle.number(o.behind(n).arms);
    }

    long visits(int p, long n) {
        if (none(p)) {
            return -2;
        }
        if (out(n, 0, FARTHEST)) {
            return -3;
        }
        int size = o.walk().size();
        if (n <= size || o.walkRests()) {
            return o.visits(p, (int) Math.min(n, size));
        }
        // Behind the first round each one adds as many visits.
        long period = o.roundLength();
        long rounds = (n - size) / period;
        int near = (int) (n - rounds * period);
        return o.visits(p, near) + rounds * (o.visits(p, (int) (near + period)) - o.visits(p, near));
    }

    int round(int what) {
        return out(what, 0, 1) ? -2 : o.walkRests() ? -1 : what == 0 ? o.roundFrom() : o.roundLength();
    }

    int first(int p) {
        return none(p) ? -2 : o.first(p);
    }

    int rests() {
        return o.walkRests() ? o.walk().size() - 1 : -1;
    }

    // ---- home

    int homing(int what) {
        return out(what, 0, 3) ? -2 : o.homing()[what];
    }

    int hands(int p, int what) {
        return none(p) || out(what, 0, 1) ? -2 : o.hands(p)[what];
    }

    int fills(int p, int i) {
        if (none(p)) {
            return -2;
        }
        List<Integer> filled = o.fills(p);
        return i < 0 ? -3 : i < filled.size() - 1 ? filled.get(i) : -1;
    }

    int filling(int p) {
        if (none(p)) {
            return -2;
        }
        List<Integer> filled = o.fills(p);
        return filled.get(filled.size() - 1);
    }

    // ---- footprints

    private int noPrints(int tray) {
        if (noTray(tray) != 0) {
            return noTray(tray);
        }
        if (out(trays[tray].length, 1, 8)) {
            return -4;
        }
        return Arrays.stream(trays[tray]).anyMatch(v -> out(v, 0, o.posts - 1)) ? -3 : 0;
    }

    int footprints(int tray) {
        int code = noPrints(tray);
        return code != 0 ? code : o.fitting(trays[tray]).size();
    }

    int shown(int tray, int p) {
        int code = out(tray, 0, 3) || none(p) ? -2 : noPrints(tray);
        return code != 0 ? code : o.shown(trays[tray], p);
    }

    int look(int tray) {
        int code = noPrints(tray);
        return code != 0 ? code : o.look(trays[tray]);
    }

    int fogs(int tray) {
        int code = noPrints(tray);
        return code != 0 ? code : o.fogs(trays[tray]);
    }

    // ---- ahead, again, trees

    int ahead(int n) {
        return out(n, 0, 6) ? -3 : o.ahead(n)[0];
    }

    int from() {
        return o.ahead(1)[1];
    }

    int again() {
        return o.again();
    }

    int trees(int p) {
        return none(p) ? -2 : o.trees(p);
    }

    // ---- astray

    /** The number above or below of a fraction in lowest terms: the least one below by which it is whole. */
    private static long fraction(double value, int what) {
        for (int below = 1; below <= MOST_BELOW; below++) {
            long above = Math.round(value * below);
            if (Math.abs(value - (double) above / below) < 1e-7) {
                return what == 0 ? above : below;
            }
        }
        throw new IllegalStateException("no such fraction: " + value);
    }

    long chance(int a, int b, int what) {
        return none(a) || none(b) || a == b || out(what, 0, 1) ? -2 : fraction(o.chance(a, b), what);
    }

    long mean(int what) {
        if (out(what, 0, 1)) {
            return -2;
        }
        double mean = o.mean();
        return mean < 0 ? -1 : fraction(mean, what);
    }

    int score(int a, int b, int n) {
        if (none(a) || none(b) || a == b) {
            return -2;
        }
        return out(n, 0, 999) ? -3 : o.score(a, b, n);
    }

    // ---- by turns

    int forces(int p) {
        return none(p) ? -2 : o.forces(p);
    }

    int best(int p) {
        return none(p) ? -2 : o.best(p);
    }

    // ---- trays, images

    int numbers(int tray, int sort, int n) {
        if (out(tray, 0, 3) || out(sort, 0, 3)) {
            return -2;
        }
        if (out(n, 0, 40)) {
            return -3;
        }
        trays[tray] = new long[n];
        sorts[tray] = sort;
        return 0;
    }

    long write(int tray, int i, long v) {
        if (noTray(tray) != 0) {
            return noTray(tray);
        }
        if (out(i, 0, trays[tray].length - 1)) {
            return -7;
        }
        int unused = 64 - (8 << sorts[tray]);
        trays[tray][i] = v << unused >> unused;
        return trays[tray][i];
    }

    int lists(int tray) {
        if (noTray(tray) != 0) {
            return noTray(tray);
        }
        for (int i = 0; i < trays[tray].length; i++) {
            trays[tray][i] = o.behind(i + 1).walker;
        }
        return trays[tray].length;
    }

    int image(int i) {
        if (out(i, 0, 1)) {
            return -2;
        }
        images[i] = o.copy();
        return 0;
    }

    int restore(int i) {
        if (out(i, 0, 1)) {
            return -2;
        }
        if (images[i] == null) {
            return -5;
        }
        o = images[i].copy();
        past.clear();
        return 0;
    }

    int count(int what) {
        int roads = o.roads.stream().mapToInt(List::size).sum();
        int homes = o.homes.stream().mapToInt(p -> 1 << p).sum();
        int[] all = {o.posts, roads, homes, o.walker, Oracle.number(o.arms), o.fog, o.steps, past.size(), tape.length(), o.lines};
        return out(what, 0, 9) ? -1 : all[what];
    }
}
