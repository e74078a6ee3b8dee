import java.util.function.ToLongFunction;

/** The edges that the document names for going and homes: promises 16 to 25, with what "Terms" says of them. */
final class GoingEdgeTest {
    private static final int MIN = Twin.MIN;
    private static final int MAX = Twin.MAX;
    private static final long FAR = 1000000000000000L;
    private static final long[] NO_FARNESS = {-1, FAR + 1, FAR + 2, -FAR, Long.MIN_VALUE, Long.MAX_VALUE};
    private static final int[] NO_POSTS = {-1, 4, 5, 6, MIN, MAX};
    private static final String RING = "moor posts 3;road 0 1;road 1 2;road 2 0;";
    /** 0 1 lead into a ring of 2 3. */
    private static final String TAIL = "moor posts 4;road 0 1;road 1 2;road 2 3;road 3 2;";

    private GoingEdgeTest() {
    }

    public static void main(String[] args) {
        at();
        arms();
        farthest();
        visits();
        visitsAtRest();
        round();
        first();
        rests();
        homing();
        homingAtHome();
        homingByNone();
        hands();
        handsNever();
        fills();
        fillsFull();
        filling();
        Check.end();
    }

    private static void due(String call, long want, long got) {
        Check.due(call, want, got);
    }

    private static void refused(String call, long code, ToLongFunction<SignTurn> asked) {
        Twin.refused(call, code, asked);
    }

    private static void asks(String call, long want, String text, ToLongFunction<SignTurn> asked) {
        Twin.asks(call + " of " + text, want, () -> Check.of(text), asked);
    }

    /** Six posts in a ring, each with three roads to the next one. */
    private static String big() {
        StringBuilder text = new StringBuilder("moor posts 6;");
        for (int i = 0; i < 18; i++) {
            text.append("road ").append(i % 6).append(' ').append((i + 1) % 6).append(';');
        }
        return text.toString();
    }

    // ---- 16 to 18

    /** "Where it is behind n STEPS GOING (0 to 1,000,000,000,000,000). -3." */
    private static void at() {
        for (long n : NO_FARNESS) {
            refused("at " + n, -3, x -> x.at(n));
            Twin.refused("at " + n + " without a text", -3, SignTurn::new, x -> x.at(n));
        }
        asks("at 0", 0, TAIL, x -> x.at(0));
        asks("at 1", 1, TAIL, x -> x.at(1));
        asks("at the farthest", 2, TAIL, x -> x.at(FAR));
        asks("at the last but one", 3, TAIL, x -> x.at(FAR - 1));
        asks("at 0 of a home", 1, RING + "home 1;walker 1;", x -> x.at(0));
        // "RESTING is no STEP, and all stays".
        asks("at rest", 1, RING + "home 1;", x -> x.at(2));
        asks("at rest far", 1, RING + "home 1;", x -> x.at(FAR));
        asks("at rest without roads", 1, "moor posts 2;road 0 1;", x -> x.at(FAR));
    }

    private static void arms() {
        for (long n : NO_FARNESS) {
            refused("arms " + n, -3, x -> x.arms(n));
        }
        String last = big() + "arm 0 2;arm 1 2;arm 2 2;arm 3 2;arm 4 2;arm 5 2;";
        asks("all at their last road", 728, last, x -> x.arms(0));
        asks("the first one behind the last", 726, last, x -> x.arms(1));
        asks("all at their first road", 0, last, x -> x.arms(6));
        asks("it comes round", 728, last, x -> x.arms(18));
        asks("far", 728, last, x -> x.arms(FAR - FAR % 18));
        asks("arms stay at rest", 1, "moor posts 2;road 0 1;road 0 1;", x -> x.arms(FAR));
        asks("arms without roads", 0, "moor posts 6;", x -> x.arms(FAR));
    }

    /** Where all is at each farness, told by going there in steps. */
    private static void farthest() {
        String text = "moor posts 5;road 0 1;road 0 2;road 1 0;road 1 2;road 1 3;road 2 0;road 3 4;road 3 0;road 4 1;road 4 3;turns:post+1;"
            + "sticks:post=2 and fog=4;";
        SignTurn x = Check.of(text);
        SignTurn plain = Check.of(text);
        long[] visited = new long[5];
        for (int n = 0; n <= 80; n++) {
            due("at " + n, plain.count(3), x.at(n));
            due("arms " + n, plain.count(4), x.arms(n));
            if (n > 0) {
                visited[plain.count(3)]++;
            }
            due("visits " + n, visited[n % 5], x.visits(n % 5, n));
            plain.step();
        }
        SignTurn y = Check.of(text);
        int ahead = y.round(0);
        int round = y.round(1);
        long rest = (FAR - ahead) % round;
        due("far as near", y.at(ahead + rest), y.at(FAR));
        due("far as near, arms", y.arms(ahead + rest), y.arms(FAR));
        long all = 0;
        for (int p = 0; p < 5; p++) {
            all += y.visits(p, FAR);
            long once = y.visits(p, ahead + round) - y.visits(p, ahead);
            due("visits far", y.visits(p, ahead + rest) + (FAR - ahead) / round * once, y.visits(p, FAR));
        }
        due("each step is at some post", FAR, all);
    }

    /** "Behind how many of n STEPS GOING it is at a POST (each of 1 to n ..). -2; -3: n." */
    private static void visits() {
        for (int p : NO_POSTS) {
            refused("visits of no post", -2, x -> x.visits(p, 1));
            refused("visits of no post ahead of n", -2, x -> x.visits(p, -1));
        }
        for (long n : NO_FARNESS) {
            refused("visits " + n, -3, x -> x.visits(0, n));
        }
        asks("behind no step", 0, RING, x -> x.visits(0, 0));
        asks("now doesn't count", 0, RING, x -> x.visits(0, 2));
        asks("behind the last of n it counts", 1, RING, x -> x.visits(0, 3));
        asks("behind the first it counts", 1, RING, x -> x.visits(1, 1));
        asks("far", 333333333333334L, RING, x -> x.visits(1, FAR));
        asks("far, of the others", 333333333333333L, RING, x -> x.visits(2, FAR));
        asks("always there", FAR, "moor posts 1;road 0 0;", x -> x.visits(0, FAR));
        asks("waiting there", FAR, "moor posts 2;road 0 1;sticks:1=1;", x -> x.visits(0, FAR));
        asks("once, ahead of the ring", 1, TAIL, x -> x.visits(1, FAR));
        asks("never again", 0, TAIL, x -> x.visits(0, FAR));
    }

    /** "RESTING: as long as there are STEPS". */
    private static void visitsAtRest() {
        asks("where it rests now", 0, RING + "home 0;", x -> x.visits(0, FAR));
        asks("where it comes to rest", 1, RING + "home 2;", x -> x.visits(2, FAR));
        asks("just behind the last step", 1, RING + "home 2;", x -> x.visits(2, 2));
        asks("ahead of the last step", 0, RING + "home 2;", x -> x.visits(2, 1));
        asks("on its way", 1, RING + "home 2;", x -> x.visits(1, FAR));
        asks("without roads", 1, "moor posts 2;road 0 1;", x -> x.visits(1, FAR));
        Twin.asks("without a text", 0, SignTurn::new, x -> x.visits(0, FAR));
    }

    // ---- 19 to 21

    /** "NONE: it RESTS some time; -2: what", and "all these ahead of NONE". */
    private static void round() {
        for (int what : new int[] {-1, 2, 3, MIN, MAX}) {
            refused("round " + what, -2, x -> x.round(what));
            Twin.refused("round " + what + " ahead of NONE", -2, SignTurn::new, x -> x.round(what));
        }
        for (int what = 0; what < 2; what++) {
            int k = what;
            asks("rests some time", -1, RING + "home 2;", x -> x.round(k));
            asks("rests now", -1, RING + "home 0;", x -> x.round(k));
            asks("rests without roads", -1, "moor posts 2;road 0 1;", x -> x.round(k));
            Twin.asks("rests without a text", -1, SignTurn::new, x -> x.round(k));
        }
        asks("from now on", 0, RING, x -> x.round(0));
        asks("behind three", 3, RING, x -> x.round(1));
        asks("one step round", 1, "moor posts 1;road 0 0;", x -> x.round(1));
        asks("waiting for ever", 1, "moor posts 2;road 0 1;sticks:1=1;", x -> x.round(1));
        asks("behind a tail", 2, TAIL, x -> x.round(0));
        asks("behind a tail, two", 2, TAIL, x -> x.round(1));
        asks("arms come round, too", 18, big(), x -> x.round(1));
        asks("arms that stay", 6, big() + "turns:3;", x -> x.round(1));
        // It is at the same post again, but its arm isn't as it was: only that of the other road is so for ever.
        asks("an arm behind the first step", 1, "moor posts 1;road 0 0;road 0 0;road 0 0;turns:if arm=0 then 1 else 0 end;", x -> x.round(0));
    }

    /** "(0: it is). NONE: never; -2." */
    private static void first() {
        for (int p : NO_POSTS) {
            refused("first of no post", -2, x -> x.first(p));
        }
        asks("it is there", 0, RING, x -> x.first(0));
        asks("it is there at rest", 0, RING + "home 0;", x -> x.first(0));
        asks("behind one", 1, RING, x -> x.first(1));
        asks("the last", 5, big(), x -> x.first(5));
        asks("never, in a ring", -1, TAIL + "walker 2;", x -> x.first(1));
        asks("never, past a home", -1, RING + "home 1;", x -> x.first(2));
        asks("never, past one without roads", -1, "moor posts 3;road 0 1;", x -> x.first(2));
        Twin.asks("without a text", 0, SignTurn::new, x -> x.first(0));
    }

    /** "(0: it does). NONE: never." */
    private static void rests() {
        asks("at a home", 0, RING + "home 0;", SignTurn::rests);
        asks("without roads", 0, "moor posts 2;road 1 0;", SignTurn::rests);
        Twin.asks("without a text", 0, SignTurn::new, SignTurn::rests);
        asks("behind one", 1, RING + "home 1;", SignTurn::rests);
        asks("never", -1, RING, SignTurn::rests);
        asks("never, waiting", -1, "moor posts 2;road 0 1;home 1;sticks:1=1;", SignTurn::rests);
        // The second road is shown but behind the last step of a round.
        asks("behind a round", 3, "moor posts 3;road 0 1;road 0 2;road 1 0;home 2;", SignTurn::rests);
    }

    // ---- 22

    private static void homing(String text, long... want) {
        for (int what = 0; what < 4; what++) {
            int k = what;
            asks("homing " + what, want[what], text, x -> x.homing(k));
        }
    }

    /** "-2: what", ahead of NONE; "the least number"; "(0 to one less than a POST has roads, 0 without)". */
    private static void homing() {
        for (int what : new int[] {-1, 4, 5, MIN, MAX}) {
            refused("homing " + what, -2, x -> x.homing(what));
            Twin.refused("homing " + what + " ahead of NONE", -2, () -> Check.of(RING), x -> x.homing(what));
        }
        homing(RING + "home 1;", 1, 0, 1, 1);
        homing("moor posts 2;road 0 1;road 0 1;road 0 1;home 1;arm 0 2;", 1, 0, 1, 3);
        // By arm 2 at once, by the others a step later each.
        homing("moor posts 2;road 0 0;road 0 0;road 0 1;home 1;", 1, 2, 3, 3);
        // All arms there can be: 2 by 3 by 1 (the roadless home, too).
        homing("moor posts 3;road 0 2;road 0 2;road 1 0;road 1 0;road 1 0;home 2;arm 1 2;", 1, 0, 1, 6);
        homing(big() + "home 5;", 5, 0, 5, 729);
        homing(big() + "home 5;walker 3;", 2, 0, 2, 729);
        homing(TAIL + "home 3;walker 2;", 1, 0, 1, 1);
    }

    /** "(0 STEPS, if it is)": by all arms then. */
    private static void homingAtHome() {
        Twin.asks("without a text", 0, SignTurn::new, x -> x.homing(0));
        Twin.asks("without a text, by how many", 1, SignTurn::new, x -> x.homing(3));
        homing(RING + "home 0;", 0, 0, 0, 1);
        homing(big() + "home 0;arm 3 2;", 0, 0, 0, 729);
        homing("moor posts 2;home 0;", 0, 0, 0, 1);
    }

    /** "NONE (0 to 2): by none", and 0 of them. */
    private static void homingByNone() {
        homing(RING, -1, -1, -1, 0);
        homing(TAIL + "home 0;walker 2;", -1, -1, -1, 0);
        homing("moor posts 2;home 1;", -1, -1, -1, 0);
        homing("moor posts 2;road 0 1;home 1;sticks:1=1;", -1, -1, -1, 0);
        // It rests without roads, and that is no home.
        homing("moor posts 3;road 0 1;home 2;", -1, -1, -1, 0);
        homing("moor posts 3;road 0 1;road 0 2;home 2;turns:0;", 1, 1, 1, 1);
    }

    // ---- 23

    private static void hands(String text, int p, int turned, int steps) {
        asks("hands to " + p, turned, text, x -> x.hands(p, 0));
        asks("hands to " + p + ", steps", steps, text, x -> x.hands(p, 1));
    }

    private static void hands() {
        for (int p : NO_POSTS) {
            refused("hands to no post", -2, x -> x.hands(p, 0));
            refused("hands to no post, nor what", -2, x -> x.hands(p, 2));
        }
        for (int what : new int[] {-1, 2, 3, MIN, MAX}) {
            refused("hands what " + what, -2, x -> x.hands(0, what));
            Twin.refused("hands what " + what + " ahead of NONE", -2, () -> Check.of(RING + "home 0;"), x -> x.hands(1, what));
        }
        hands(RING, 0, 0, 0);
        hands(RING + "home 0;", 0, 0, 0);
        hands(RING, 2, 0, 2);
        // "the fewest TURNED, of like ones the fewest STEPS".
        hands("moor posts 2;road 0 0;road 0 0;road 0 1;", 1, 0, 3);
        hands("moor posts 2;road 0 0;road 0 0;road 0 1;turns:0;", 1, 1, 1);
        hands("moor posts 4;road 0 1;road 0 2;road 0 3;road 1 3;road 2 1;turns:0;", 3, 0, 2);
        // Both by one hand: at once, or by a longer way.
        hands("moor posts 4;road 0 0;road 0 1;road 0 3;road 1 2;road 2 3;turns:0;", 3, 1, 1);
        hands("moor posts 3;road 0 0;road 0 1;road 1 1;road 1 2;turns:0;", 2, 2, 2);
        // By one hand at the start it is two steps, by one at the end four; and the other way about.
        hands("moor posts 6;road 0 1;road 0 4;road 4 5;road 1 2;road 2 3;road 3 3;road 3 5;turns:0;", 5, 1, 2);
        hands("moor posts 6;road 0 1;road 0 2;road 2 3;road 3 4;road 4 5;road 1 1;road 1 5;turns:0;", 5, 1, 2);
        hands("moor posts 2;road 1 0;walker 1;", 0, 0, 1);
        // A step at which it waits is a step, too.
        hands("moor posts 2;road 0 1;road 0 1;road 0 1;sticks:arm<2;", 1, 0, 3);
        // The arm shows 0 and 1 by turns for ever.
        hands("moor posts 2;road 0 0;road 0 0;road 0 1;turns:if arm=0 then 1 else 0-1 end;", 1, 1, 1);
    }

    /** "NONE: it can't be". */
    private static void handsNever() {
        hands(RING + "home 1;", 2, -1, -1);
        hands(RING + "home 0;", 1, -1, -1);
        hands("moor posts 2;", 1, -1, -1);
        hands("moor posts 3;road 0 1;", 2, -1, -1);
        hands("moor posts 2;road 0 1;road 0 1;sticks:1=1;", 1, -1, -1);
        hands(TAIL + "walker 3;", 0, -1, -1);
    }

    // ---- 24, 25

    private static void filled(String text, int p, int steps, int... posts) {
        for (int i = 0; i < 8; i++) {
            int k = i;
            asks("fills " + p + " " + i, i < posts.length ? posts[i] : -1, text, x -> x.fills(p, k));
        }
        asks("filling " + p, steps, text, x -> x.filling(p));
    }

    /** "(the first, i 0: that one). NONE: not so many; -2; -3: i is below 0." */
    private static void fills() {
        for (int p : NO_POSTS) {
            refused("fills from no post", -2, x -> x.fills(p, 0));
            refused("fills from no post ahead of i", -2, x -> x.fills(p, -1));
        }
        for (int i : new int[] {-1, -2, MIN}) {
            refused("fills " + i, -3, x -> x.fills(0, i));
            Twin.refused("fills " + i + " without a text", -3, SignTurn::new, x -> x.fills(0, i));
        }
        for (int i : new int[] {4, 6, 7, 1000, MAX}) {
            refused("fills so many " + i, -1, x -> x.fills(0, i));
        }
        for (int p = 0; p < 4; p++) {
            int q = p;
            asks("the first one", p, TAIL + "home 2;", x -> x.fills(q, 0));
        }
    }

    /** "if it never comes to one, or RESTS at one that is FULL, no more are FILLED", and when all are full. */
    private static void fillsFull() {
        filled("moor posts 1;", 0, 0, 0);
        filled("moor posts 1;road 0 0;", 0, 0, 0);
        filled(RING, 0, 3, 0, 1, 2);
        filled(RING, 2, 3, 2, 0, 1);
        filled(big(), 4, 15, 4, 5, 0, 1, 2, 3);
        filled(RING + "home 1;", 0, 1, 0, 1);
        filled(RING + "home 0;", 0, 0, 0);
        filled("moor posts 2;road 0 1;", 0, 1, 0, 1);
        filled("moor posts 3;road 0 1;road 1 0;", 0, 1, 0, 1);
        filled("moor posts 2;road 0 1;sticks:1=1;", 0, 0, 0);
        // Where the walker is now doesn't matter, arms as they are do.
        filled("moor posts 3;road 0 1;road 0 2;arm 0 1;walker 2;", 0, 2, 0, 2, 1);
        // The second walker rests at 1, which is full by the first: no third one, though 2 is empty yet.
        filled("moor posts 3;road 0 1;road 0 1;road 0 2;", 0, 1, 0, 1);
    }

    /** "how many STEPS in all, till no more are FILLED (STEPS of one by whom none is FILLED aside). -2." */
    private static void filling() {
        for (int p : NO_POSTS) {
            refused("filling from no post", -2, x -> x.filling(p));
        }
        // Behind two that were filled a third goes round in three posts for ever, or rests behind one step.
        asks("steps of one that goes round aside", 1, "moor posts 3;road 0 1;road 1 0;road 1 0;", x -> x.filling(0));
        asks("steps of one that rests aside", 1, "moor posts 3;road 0 1;", x -> x.filling(0));
        Twin.asks("without a text", 0, SignTurn::new, x -> x.filling(0));
    }
}
