import java.util.function.Supplier;
import java.util.function.ToLongFunction;

/** The edges that the document names for footprints, stands, trees, those astray and forcing: promises 26 to 38. */
final class LostEdgeTest {
    private static final int MIN = Twin.MIN;
    private static final int MAX = Twin.MAX;
    private static final int[] NO_POSTS = {-1, 4, 5, 6, MIN, MAX};
    private static final String RING = "moor posts 3;road 0 1;road 1 2;road 2 0;";
    /** 0 1 lead into a ring of 2 3. */
    private static final String TAIL = "moor posts 4;road 0 1;road 1 2;road 2 3;road 3 2;";
    /** From 1, 2, 3 as likely up as down; it rests at 0 and 4. */
    private static final String LINE = "moor posts 5;road 1 0;road 1 2;road 2 1;road 2 3;road 3 2;road 3 4;walker 1;";

    private static final String ROW = "moor posts 6;road 1 0;road 1 2;road 2 1;road 2 3;road 3 2;road 3 4;road 4 3;road 4 5;";
    private static final String SLOPE = "moor posts 6;road 1 0;road 1 2;road 1 2;road 2 1;road 2 3;road 2 3;road 3 2;road 3 4;road 3 4;"
        + "road 4 3;road 4 5;road 4 5;";

    private LostEdgeTest() {
    }

    public static void main(String[] args) {
        printsRefused("footprints", SignTurn::footprints);
        printsRefused("shown", (x, tray) -> x.shown(tray, 0));
        printsRefused("look", SignTurn::look);
        printsRefused("fogs", SignTurn::fogs);
        printsOneToEight();
        printsWaitingAndResting();
        printsByAllArms();
        shown();
        look();
        fogs();
        ahead();
        from();
        again();
        trees();
        chance();
        chanceAtOnce();
        mean();
        meanNotSure();
        score();
        scoreToNeither();
        forces();
        forcesNever();
        best();
        Check.end();
    }

    private static void due(String call, long want, long got) {
        Check.due(call, want, got);
    }

    private static void refused(String call, long code, ToLongFunction<SignTurn> asked) {
        Twin.refused(call, code, asked);
    }

    private static void asks(String call, long want, String text, ToLongFunction<SignTurn> asked) {
        Twin.asks(call + " of " + text, want, () -> Check.of(text), asked);
    }

    // ---- 26 to 29

    private interface ByTray {
        int of(SignTurn x, int tray);
    }

    private static Supplier<SignTurn> printed(String text, long... prints) {
        return () -> {
            SignTurn x = Check.of(text);
            Check.tray(x, 1, 3, prints);
            return x;
        };
    }

    /** "-2: the TRAY; -6; -4: not 1 to 8 numbers; -3: one is no POST", in this order. */
    private static void printsRefused(String call, ByTray asked) {
        for (int tray : new int[] {-1, 4, 5, MIN, MAX}) {
            refused(call + " of tray " + tray, -2, x -> asked.of(x, tray));
        }
        refused(call + " of a missing tray", -6, x -> asked.of(x, 3));
        for (int size : new int[] {0, 9, 10, 40}) {
            Twin.refused(call + " of so many " + size, -4, printed(RING, new long[size]), x -> asked.of(x, 1));
            long[] none = new long[size];
            java.util.Arrays.fill(none, 7);
            Twin.refused(call + " of so many no posts " + size, -4, printed(RING, none), x -> asked.of(x, 1));
        }
        for (long p : new long[] {-1, 3, 4, 6, MIN, MAX, 1L << 32, -(1L << 32), (1L << 32) + 1, Long.MIN_VALUE, Long.MAX_VALUE}) {
            Twin.refused(call + " of no post " + p, -3, printed(RING, p), x -> asked.of(x, 1));
            Twin.refused(call + " of no post at last " + p, -3, printed(RING, 1, 2, 0, 1, 2, 0, 1, p), x -> asked.of(x, 1));
            Twin.refused(call + " of no post at first " + p, -3, printed(RING, p, 2, 2), x -> asked.of(x, 1));
        }
        // A post that is none on another moor: it is asked for when the call is made.
        SignTurn x = printed("moor posts 6;road 0 5;", 5).get();
        due(call + " of the last post isn't refused", 1, asked.of(x, 1) >= -1 ? 1 : 0);
        Check.retell(x, "moor posts 5;road 0 1;");
        due(call + " of a post that was", -3, asked.of(x, 1));
    }

    private static void prints(String text, int want, long... prints) {
        Twin.asks("footprints of " + text, want, printed(text, prints), x -> x.footprints(1));
    }

    /** "1 to 8 numbers". */
    private static void printsOneToEight() {
        prints(RING, 1, 1);
        prints(RING, 0, 0);
        prints(RING, 0, 2);
        prints(RING, 1, 1, 2, 0, 1, 2, 0, 1, 2);
        prints(RING, 0, 1, 2, 0, 1, 2, 0, 1, 0);
        prints("moor posts 6;road 0 5;road 5 5;", 1, 5, 5, 5, 5, 5, 5, 5, 5);
    }

    /** "where it waited, the same again; RESTING is no STEP". */
    private static void printsWaitingAndResting() {
        prints(RING + "home 1;", 1, 1);
        prints(RING + "home 1;", 0, 1, 1);
        prints(RING + "home 0;", 0, 0);
        prints("moor posts 2;road 0 1;", 1, 1);
        prints("moor posts 2;road 0 1;", 0, 1, 1);
        prints("moor posts 1;", 0, 0);
        prints("moor posts 2;road 0 1;sticks:1=1;", 1, 0, 0, 0, 0, 0, 0, 0, 0);
        prints("moor posts 2;road 0 1;road 0 1;sticks:arm=0;", 1, 0, 1);
        prints("moor posts 2;road 0 1;road 0 1;sticks:arm=0;", 1, 1);
        prints("moor posts 2;road 0 1;road 0 1;sticks:arm=0;", 0, 0, 0);
    }

    /** "ARMS of all POSTS (0 to one less than it has roads, 0 without)": as they are now doesn't matter. */
    private static void printsByAllArms() {
        String text = "moor posts 4;road 0 1;road 0 2;road 1 0;road 1 0;road 1 0;road 3 0;road 3 0;";
        prints(text, 6, 1);
        prints(text + "arm 0 1;arm 3 1;arm 1 2;", 6, 1);
        prints(text, 6, 2);
        prints(text, 6, 1, 0, 2);
        prints(text, 0, 3);
        prints(text + "walker 3;", 12, 0);
        prints(text + "walker 3;", 6, 0, 2);
        prints(text + "walker 1;", 6, 0, 1);
        prints(text + "walker 2;", 0, 2);
    }

    /** "as bits (0: there are none). -2: the TRAY, the POST; else as footprints()". */
    private static void shown() {
        for (int p : NO_POSTS) {
            refused("shown by no post", -2, x -> x.shown(0, p));
            refused("shown by no post ahead of a missing tray", -2, x -> x.shown(3, p));
            refused("shown by no post ahead of a tray of none", -2, x -> x.shown(1, p));
            refused("shown by no post, in no tray", -2, x -> x.shown(4, p));
        }
        String text = "moor posts 3;road 0 1;road 0 1;road 0 2;road 1 0;road 1 0;road 1 0;";
        int[] by1 = {3, 7, 1};
        int[] by2 = {4, 7, 1};
        int[] by0 = {0, 0, 0};
        for (int p = 0; p < 3; p++) {
            int q = p;
            Twin.asks("shown to 1 by " + p, by1[p], printed(text, 1), x -> x.shown(1, q));
            Twin.asks("shown to 2 by " + p, by2[p], printed(text, 2), x -> x.shown(1, q));
            Twin.asks("shown to 0, by which there are none, by " + p, by0[p], printed(text, 0), x -> x.shown(1, q));
        }
    }

    /** "is least, the first. NONE: there are none". */
    private static void look() {
        Twin.asks("none", -1, printed(RING, 2), x -> x.look(1));
        Twin.asks("none at rest", -1, printed("moor posts 1;", 0), x -> x.look(1));
        Twin.asks("all alike: the first", 0, printed(RING, 1), x -> x.look(1));
        // Of three arms each shows another at 1 and 2: of these the first.
        Twin.asks("like ones: the first", 1, printed("moor posts 3;road 0 1;" + "road 1 0;".repeat(3) + "road 2 0;".repeat(3), 1), x -> x.look(1));
        Twin.asks("the least: the last one", 2, printed("moor posts 3;road 0 1;" + "road 1 0;".repeat(2) + "road 2 0;".repeat(3), 1), x -> x.look(1));
        // By 1 2 the arm of 1 is known, whichever road it is; of 0 three are as likely, of 2 two.
        for (int known = 0; known < 3; known++) {
            StringBuilder told = new StringBuilder("moor posts 3;road 0 1;road 0 1;road 0 1;road 2 2;road 2 2;");
            for (int road = 0; road < 3; road++) {
                told.append("road 1 ").append(road == known ? 2 : 0).append(';');
            }
            Twin.asks("not the one whose road " + known + " is known", 0, printed(told.toString(), 1, 2), x -> x.look(1));
        }
        // What its arm can't have shown is nothing to look for: by the footprints 1 showed road 0.
        Twin.asks("not one that is known", 2, printed("moor posts 3;road 0 1;road 1 0;road 1 2;road 1 2;road 2 0;road 2 1;", 1, 0), x -> x.look(1));
    }

    /** "FOGS 0 to 9 by which it is so, ARMS as they are": from none to all. */
    private static void fogs() {
        Twin.asks("all", 1023, printed(RING, 1), x -> x.fogs(1));
        Twin.asks("none", 0, printed(RING, 2), x -> x.fogs(1));
        Twin.asks("none at rest", 0, printed(RING + "home 0;", 0), x -> x.fogs(1));
        for (int fog = 0; fog < 10; fog++) {
            String text = "moor posts 2;road 0 1;road 1 0;fog 4;sticks:fog=" + fog + ";";
            Twin.asks("fog " + fog, 1 << fog, printed(text, 0), x -> x.fogs(1));
            Twin.asks("all but " + fog, 1023 - (1 << fog), printed(text, 1), x -> x.fogs(1));
        }
        // By other arms it would be so, but not as they are.
        Twin.asks("arms as they are", 0, printed("moor posts 3;road 0 1;road 0 2;", 2), x -> x.fogs(1));
        Twin.asks("arms as they are, turned", 1023, printed("moor posts 3;road 0 1;road 0 2;arm 0 1;", 2), x -> x.fogs(1));
    }

    // ---- 30 to 33

    /** "by just n STEPS (0 to 6) .. -3". */
    private static void ahead() {
        for (int n : new int[] {-1, 7, 8, MIN, MAX}) {
            refused("ahead " + n, -3, x -> x.ahead(n));
            Twin.refused("ahead " + n + " without a text", -3, SignTurn::new, x -> x.ahead(n));
        }
        int[] tail = {1, 2, 2, 2, 2, 2, 2};
        int[] start = {1, 0, 0, 0, 0, 0, 0};
        // 2 3 come round; 1 leads in by one, 0 by two.
        int[] third = {1, 1, 2, 2, 2, 2, 2};
        int[] branches = {1, 2, 3, 0, 0, 0, 0};
        for (int n = 0; n <= 6; n++) {
            int k = n;
            asks("ahead of 2, " + n, tail[n], TAIL + "walker 2;", x -> x.ahead(k));
            asks("ahead of 3, " + n, third[n], TAIL + "walker 3;", x -> x.ahead(k));
            asks("ahead in a tree, " + n, branches[n], "moor posts 6;road 1 0;road 2 0;road 3 1;road 4 1;road 5 2;", x -> x.ahead(k));
            asks("ahead of the first, " + n, start[n], TAIL, x -> x.ahead(k));
            asks("itself ahead of itself, " + n, 1, "moor posts 1;road 0 0;", x -> x.ahead(k));
            asks("a home ahead of itself, " + n, start[n], "moor posts 1;road 0 0;home 0;", x -> x.ahead(k));
            asks("without roads, " + n, start[n], "moor posts 2;", x -> x.ahead(k));
        }
        // Many: from both others, by whichever arm; an arm that was the last one moved on to the first.
        asks("by the last arm", 2, "moor posts 3;road 1 0;road 1 0;road 2 0;road 2 0;road 2 0;", x -> x.ahead(1));
        asks("all three lead to one", 3, "moor posts 2;road 1 0;road 1 0;road 1 0;turns:0-arm;", x -> x.ahead(1));
    }

    private static void from() {
        asks("none", 0, TAIL, SignTurn::from);
        Twin.asks("without a text", 0, SignTurn::new, SignTurn::from);
        asks("itself", 1, "moor posts 1;road 0 0;", SignTurn::from);
        asks("not from a home", 0, "moor posts 2;road 1 0;home 1;", SignTurn::from);
        asks("to a home", 2, "moor posts 2;road 1 0;home 0;", SignTurn::from);
        asks("all six", 63, "moor posts 6;road 0 0;road 1 0;road 2 0;road 3 0;road 4 0;road 5 0;", SignTurn::from);
        asks("one post by many arms", 2, "moor posts 2;road 1 0;road 1 0;road 1 0;turns:0-arm;", SignTurn::from);
        asks("who waited", 1, "moor posts 2;road 0 1;road 0 1;arm 0 1;sticks:arm=0;", SignTurn::from);
        asks("its arm can't have come to show that", 0, "moor posts 2;road 1 0;road 1 0;turns:if arm=0 then 1 else 0 end;", SignTurn::from);
    }

    /** "one STEP at least". */
    private static void again() {
        asks("at rest none comes again", 0, "moor posts 6;", SignTurn::again);
        Twin.asks("without a text", 0, SignTurn::new, SignTurn::again);
        asks("all homes", 0, RING + "home 0;home 1;home 2;", SignTurn::again);
        asks("a home on each way", 0, RING + "home 1;", SignTurn::again);
        asks("one by itself", 1, "moor posts 1;road 0 0;", SignTurn::again);
        asks("a ring", 3, RING, SignTurn::again);
        asks("but its tail", 2, TAIL, SignTurn::again);
        asks("a ring where the walker isn't", 2, "moor posts 4;road 2 3;road 3 2;", SignTurn::again);
        asks("two rings", 4, "moor posts 6;road 0 0;road 1 2;road 2 1;road 3 1;road 5 5;", SignTurn::again);
        asks("waiting for ever", 1, "moor posts 2;road 0 1;sticks:1=1;", SignTurn::again);
        asks("waiting for ever, by all arms", 6, "moor posts 2;road 0 1;road 0 1;road 1 0;road 1 0;road 1 0;home 1;sticks:1=1;", SignTurn::again);
        StringBuilder big = new StringBuilder("moor posts 6;");
        for (int i = 0; i < 18; i++) {
            big.append("road ").append(i % 6).append(' ').append(i % 6).append(';');
        }
        asks("all stands there can be", 6 * 729, big.toString(), SignTurn::again);
        asks("all but those at a home", 5 * 729, big + "home 3;", SignTurn::again);
    }

    /** "ARMS of all others (each has a road)"; "-2". */
    private static void trees() {
        for (int p : NO_POSTS) {
            refused("trees to no post", -2, x -> x.trees(p));
        }
        Twin.asks("of one post", 1, SignTurn::new, x -> x.trees(0));
        asks("of one post with roads", 1, "moor posts 1;road 0 0;road 0 0;", x -> x.trees(0));
        asks("another has no road", 0, "moor posts 2;road 0 1;", x -> x.trees(0));
        asks("to the one that has none", 1, "moor posts 2;road 0 1;", x -> x.trees(1));
        asks("alike roads", 3, "moor posts 2;road 0 1;road 0 1;road 0 1;", x -> x.trees(1));
        asks("its own roads don't count", 2, "moor posts 2;road 0 1;road 0 1;road 1 0;road 1 0;road 1 1;", x -> x.trees(1));
        asks("past homes", 1, RING + "home 0;home 1;home 2;", x -> x.trees(1));
        asks("never to itself", 0, "moor posts 2;road 0 0;road 1 1;", x -> x.trees(1));
        StringBuilder star = new StringBuilder("moor posts 6;");
        for (int i = 0; i < 15; i++) {
            star.append("road ").append(1 + i % 5).append(" 0;");
        }
        asks("as many as there can be", 243, star.toString(), x -> x.trees(0));
    }

    // ---- 34 to 36

    private static void fraction(String text, long above, long below, int a, int b) {
        asks("chance of " + a + " ahead of " + b + ", above", above, text, x -> x.chance(a, b, 0));
        asks("chance of " + a + " ahead of " + b + ", below", below, text, x -> x.chance(a, b, 1));
    }

    /** "-2: POSTS, both one, what". */
    private static void chance() {
        for (int p : NO_POSTS) {
            refused("chance of no post", -2, x -> x.chance(p, 0, 0));
            refused("chance ahead of no post", -2, x -> x.chance(0, p, 0));
            refused("chance of none ahead of none", -2, x -> x.chance(p, p, 5));
        }
        for (int p = 0; p < 4; p++) {
            int q = p;
            refused("chance, both one", -2, x -> x.chance(q, q, 0));
        }
        for (int what : new int[] {-1, 2, 3, MIN, MAX}) {
            refused("chance what " + what, -2, x -> x.chance(0, 1, what));
        }
        Twin.refused("chance without a text", -2, SignTurn::new, x -> x.chance(0, 1, 0));
        fraction(LINE, 3, 4, 0, 4);
        fraction(LINE, 1, 4, 4, 0);
        fraction(LINE, 1, 3, 3, 0);
        fraction(LINE, 1, 2, 2, 0);
        // Three roads, of which two are alike: in lowest terms.
        fraction("moor posts 3;road 0 1;road 0 1;road 0 2;", 2, 3, 1, 2);
        fraction("moor posts 3;road 0 0;road 0 1;road 0 2;", 1, 2, 1, 2);
        // Six in a row, as likely up as down: from k by k fifths.
        for (int k = 1; k < 5; k++) {
            fraction(ROW + "walker " + k + ";", k, 5, 5, 0);
            fraction(ROW + "walker " + k + ";", 5 - k, 5, 0, 5);
        }
        // Twice as likely up as down: 8 + 4 + 2 + 1 to 16 ..
        fraction(SLOPE + "walker 1;", 16, 31, 5, 0);
        fraction(SLOPE + "walker 1;", 15, 31, 0, 5);
        fraction(SLOPE + "walker 2;", 24, 31, 5, 0);
        fraction(SLOPE + "walker 3;", 28, 31, 5, 0);
        fraction(SLOPE + "walker 4;", 30, 31, 5, 0);
    }

    /** "(at a now: 1; at b now: 0)"; never, and surely; "at homes, at POSTS without roads it RESTS". */
    private static void chanceAtOnce() {
        fraction(LINE, 1, 1, 1, 0);
        fraction(LINE, 0, 1, 0, 1);
        fraction(LINE, 0, 1, 4, 2);
        fraction(RING, 1, 1, 1, 2);
        fraction(RING, 0, 1, 2, 1);
        fraction("moor posts 3;road 0 1;road 1 2;home 1;", 0, 1, 2, 1);
        fraction("moor posts 4;road 0 1;road 1 2;road 2 3;home 1;", 0, 1, 2, 3);
        fraction("moor posts 3;walker 0;", 0, 1, 1, 2);
        fraction("moor posts 3;road 0 1;road 0 2;home 0;", 0, 1, 1, 2);
        // At a home that is a it is there now.
        fraction("moor posts 3;road 0 1;road 0 2;home 0;", 1, 1, 0, 2);
        // Half of them go into a ring and never come out.
        fraction("moor posts 4;road 0 1;road 0 3;road 3 3;", 1, 2, 1, 2);
        // Laws don't matter to one astray, nor do arms.
        fraction("moor posts 3;road 0 1;road 0 2;arm 0 1;turns:0;sticks:1=1;", 1, 2, 1, 2);
    }

    private static void mean(String text, long above, long below) {
        asks("mean, above", above, text, x -> x.mean(0));
        asks("mean, below", below, text, x -> x.mean(1));
    }

    private static void mean() {
        for (int what : new int[] {-1, 2, 3, MIN, MAX}) {
            refused("mean " + what, -2, x -> x.mean(what));
            Twin.refused("mean " + what + " ahead of NONE", -2, () -> Check.of(RING), x -> x.mean(what));
        }
        mean("moor posts 2;", 0, 1);
        mean(RING + "home 0;", 0, 1);
        Twin.asks("without a text", 0, SignTurn::new, x -> x.mean(0));
        Twin.asks("without a text, below", 1, SignTurn::new, x -> x.mean(1));
        mean(RING + "home 1;", 1, 1);
        mean(LINE, 3, 1);
        for (int k = 1; k < 5; k++) {
            mean(ROW + "walker " + k + ";", k * (5 - k), 1);
        }
        // On a slope by a third a step: three times where it ends on the mean, less where it begins.
        mean(SLOPE + "walker 1;", 3 * (5 * 16 - 31), 31);
        mean(SLOPE + "walker 4;", 3 * (5 * 30 - 4 * 31), 31);
        mean("moor posts 2;road 0 0;road 0 1;road 0 1;", 3, 2);
        mean("moor posts 2;road 0 0;road 0 0;road 0 1;", 3, 1);
        // Each step is one back to the start by 2 of 3: 3 + 9 + .. 3 to the 5th.
        mean("moor posts 6;road 0 1;road 0 0;road 0 0;road 1 2;road 1 0;road 1 0;road 2 3;road 2 0;road 2 0;"
            + "road 3 4;road 3 0;road 3 0;road 4 5;road 4 0;road 4 0;", 363, 1);
        mean("moor posts 3;road 0 1;road 0 2;home 1;sticks:1=1;", 1, 1);
    }

    /** "NONE: it isn't sure that it does". */
    private static void meanNotSure() {
        mean(RING, -1, -1);
        mean("moor posts 3;road 0 1;road 0 2;road 2 2;", -1, -1);
        mean("moor posts 1;road 0 0;", -1, -1);
        // Elsewhere it could go round, but it can't come there.
        mean("moor posts 4;road 0 1;road 2 3;road 3 2;", 1, 1);
        // It could, past a home.
        mean("moor posts 4;road 0 1;road 1 2;road 2 3;road 3 2;home 1;", 1, 1);
    }

    /** "Of n WALKERS (0 to 999) .. (there now: no STEP) .. -2: a, b, both one; -3: n; -5: one comes to neither." */
    private static void score() {
        for (int p : NO_POSTS) {
            refused("score of no post", -2, x -> x.score(p, 0, 1));
            refused("score ahead of no post", -2, x -> x.score(0, p, 1));
            refused("score of no post ahead of n", -2, x -> x.score(p, 0, -1));
        }
        for (int p = 0; p < 4; p++) {
            int q = p;
            refused("score, both one", -2, x -> x.score(q, q, 1));
            refused("score, both one, ahead of n", -2, x -> x.score(q, q, 1000));
        }
        for (int n : new int[] {-1, 1000, 1001, MIN, MAX}) {
            refused("score of " + n, -3, x -> x.score(0, 1, n));
            Twin.refused("score of " + n + " ahead of neither", -3, () -> Check.of("moor posts 3;"), x -> x.score(1, 2, n));
        }
        String fork = "moor posts 3;road 0 1;road 0 1;road 0 2;";
        asks("of none", 0, fork, x -> x.score(1, 2, 0));
        asks("of one", 1, fork, x -> x.score(1, 2, 1));
        asks("of two", 2, fork, x -> x.score(1, 2, 2));
        asks("of three", 2, fork, x -> x.score(1, 2, 3));
        asks("of 998", 666, fork, x -> x.score(1, 2, 998));
        asks("of 999", 666, fork, x -> x.score(1, 2, 999));
        asks("of 999 to the other", 333, fork, x -> x.score(2, 1, 999));
        asks("there now", 999, fork, x -> x.score(0, 1, 999));
        asks("at the other one now", 0, fork, x -> x.score(1, 0, 999));
        asks("there now, at a home", 5, RING + "home 0;", x -> x.score(0, 1, 5));
        asks("all from the arms as they are", 0, "moor posts 3;road 0 1;road 0 2;arm 0 1;", x -> x.score(1, 2, 1));
        // The home between is no stop if it is a or b, and one that rests at another comes to neither.
        asks("to a home", 7, RING + "home 1;", x -> x.score(1, 2, 7));
        asks("where the walker is", 2, TAIL + "road 3 1;walker 3;", x -> x.score(1, 0, 2));
        asks("where the walker is, to the other", 3, "moor posts 4;road 0 1;road 3 2;road 3 1;walker 3;", x -> x.score(2, 1, 6));
        asks("by waiting", 4, "moor posts 3;road 0 1;road 0 1;sticks:arm=0;", x -> x.score(1, 2, 4));
    }

    private static void scoreToNeither() {
        for (int n : new int[] {1, 2, 999}) {
            Twin.refused("at rest", -5, () -> Check.of("moor posts 3;"), x -> x.score(1, 2, n));
            Twin.refused("at a home", -5, () -> Check.of(RING + "home 0;"), x -> x.score(1, 2, n));
            Twin.refused("in a ring", -5, () -> Check.of(TAIL + "walker 2;"), x -> x.score(0, 1, n));
            Twin.refused("waiting for ever", -5, () -> Check.of(RING + "sticks:1=1;"), x -> x.score(1, 2, n));
        }
        asks("of none, though", 0, "moor posts 3;", x -> x.score(1, 2, 0));
        // The third one comes to neither.
        String fork = "moor posts 4;road 0 1;road 0 2;road 0 3;";
        asks("two come", 1, fork, x -> x.score(1, 2, 2));
        Twin.refused("the third doesn't", -5, () -> Check.of(fork), x -> x.score(1, 2, 3));
        Twin.refused("nor of all", -5, () -> Check.of(fork), x -> x.score(1, 2, 999));
    }

    // ---- 37, 38

    /** "within how many STEPS, at fewest (0: it is there). NONE: never; -2." */
    private static void forces() {
        for (int p : NO_POSTS) {
            refused("forces no post", -2, x -> x.forces(p));
        }
        asks("it is there", 0, RING, x -> x.forces(0));
        asks("it is there, at rest", 0, RING + "home 0;", x -> x.forces(0));
        Twin.asks("without a text", 0, SignTurn::new, x -> x.forces(0));
        asks("by one", 1, RING, x -> x.forces(1));
        asks("by two", 2, RING, x -> x.forces(2));
        asks("by two, the other one has no choice", 2, "moor posts 3;road 0 0;road 0 1;road 1 2;road 1 2;", x -> x.forces(2));
        asks("at the latest, whatever the other one does", 3, "moor posts 4;road 0 1;road 1 2;road 1 3;road 2 3;", x -> x.forces(3));
        asks("laws aside", 1, RING + "sticks:1=1;turns:2;", x -> x.forces(1));
        asks("arms aside", 1, "moor posts 3;road 0 2;road 0 1;", x -> x.forces(1));
        asks("along six", 5, "moor posts 6;road 0 1;road 1 2;road 2 3;road 3 4;road 4 5;", x -> x.forces(5));
        asks("late", 9, "moor posts 6;road 0 3;road 1 5;road 1 4;road 2 1;road 3 2;road 3 1;road 4 0;road 4 1;", x -> x.forces(5));
    }

    private static void forcesNever() {
        asks("never, at rest", -1, "moor posts 2;", x -> x.forces(1));
        asks("never, at a home", -1, RING + "home 0;", x -> x.forces(1));
        asks("never, past a home", -1, RING + "home 1;", x -> x.forces(2));
        asks("never, past one without roads", -1, "moor posts 3;road 0 1;", x -> x.forces(2));
        asks("never, as the other one leads away", -1, "moor posts 3;road 0 1;road 1 2;road 1 0;", x -> x.forces(2));
        asks("never, in a ring", -1, TAIL + "walker 2;", x -> x.forces(0));
    }

    /** "The first road by which it does within as few. NONE: it doesn't, it is there; -2." */
    private static void best() {
        for (int p : NO_POSTS) {
            refused("best to no post", -2, x -> x.best(p));
        }
        asks("it is there", -1, RING, x -> x.best(0));
        asks("it is there, though a road leads back", -1, "moor posts 2;road 0 0;road 0 1;", x -> x.best(0));
        asks("it doesn't", -1, RING + "home 1;", x -> x.best(2));
        asks("it doesn't, at rest", -1, "moor posts 2;", x -> x.best(1));
        asks("the only one", 0, RING, x -> x.best(2));
        asks("the first of like ones", 0, "moor posts 2;road 0 1;road 0 1;road 0 1;", x -> x.best(1));
        asks("the first of like ones behind another", 1, "moor posts 3;road 0 2;road 0 1;road 0 1;road 2 1;", x -> x.best(1));
        asks("the last", 2, "moor posts 3;road 0 2;road 0 0;road 0 1;road 2 1;", x -> x.best(1));
        asks("not the one by which it is later", 1, "moor posts 4;road 0 1;road 0 3;road 1 2;road 2 3;", x -> x.best(3));
        Twin.asks("without a text", -1, SignTurn::new, x -> x.best(0));
    }
}
