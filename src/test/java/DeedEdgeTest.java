import java.util.function.ToLongFunction;

/** The edges that the document names for steps and deeds: "Terms" from ==== 2. on up to ==== 3., promises 5 to 15. */
final class DeedEdgeTest {
    private static final int MIN = Twin.MIN;
    private static final int MAX = Twin.MAX;
    private static final String RING = "moor posts 3;road 0 1;road 1 2;road 2 0;";
    /** Post p has as many roads as this tells. */
    private static final int[] ROADS = {0, 1, 2, 3, 0, 1};
    private static final String MANY = "moor posts 6;road 1 2;road 2 3;road 2 1;road 3 2;road 3 3;road 3 1;road 5 0;walker 2;";
    /** A million, which no number alone tells. */
    private static final String MILLION = "500*2*500*2";

    private DeedEdgeTest() {
    }

    public static void main(String[] args) {
        armOfNone();
        waiting();
        movingOn();
        noStepAtRest();
        names();
        keptWithinBounds();
        truths();
        post();
        by();
        step();
        steps();
        turn();
        setsOut();
        fog();
        tenAtMost();
        callsThatDidNone();
        eachAsAWhole();
        eachKindIsUndone();
        undo();
        everyDeed();
        judge();
        perform();
        fullTray();
        year();
        yearBySeeds();
        Check.end();
    }

    private static void due(String call, long want, long got) {
        Check.due(call, want, got);
    }

    private static void refused(String call, long code, ToLongFunction<SignTurn> asked) {
        Twin.refused(call, code, asked);
    }

    // ---- steps

    /** "each POST shows one of its roads by its ARM (0 if it has none)". */
    private static void armOfNone() {
        SignTurn x = Check.of(MANY);
        due("the arm of one without roads", 0, x.post(0, 0));
        due("the arm of the other one", 0, x.post(4, 0));
        due("none of its roads", -2, x.post(0, 10));
    }

    /** One post with so many roads to another, its arm at one of them, and laws. */
    private static SignTurn arm(int roads, int shown, String laws) {
        return Check.of("moor posts 2;" + "road 0 1;".repeat(roads) + "arm 0 " + shown + ";" + laws);
    }

    /** "(without one: never), the WALKER stays, and the ARM moves on 1", from the last road to the first one. */
    private static void waiting() {
        for (int roads = 1; roads <= 3; roads++) {
            for (int shown = 0; shown < roads; shown++) {
                for (String turns : new String[] {"", "turns:0;", "turns:2;", "turns:0-1;"}) {
                    SignTurn x = arm(roads, shown, turns + "sticks:1=1;");
                    due("it stays", 0, x.step());
                    due("its arm moves on 1", (shown + 1) % roads, x.post(0, 0));
                    due("that was a step", 1, x.count(6));
                    due("it goes by a law that doesn't hold", 1, arm(roads, shown, turns + "sticks:1=2;").step());
                    due("without a law it never waits", 1, arm(roads, shown, turns).step());
                }
            }
        }
    }

    /** "(without one: 1)"; "so many roads further, the first one behind the last, n below 0: back". */
    private static void movingOn() {
        int[] moves = {0, 1, 2, 3, 4, 5, 6, 7, 998, 999, 1000000, -1, -2, -3, -4, -5, -6, -7, -999, -1000000};
        for (int roads = 1; roads <= 3; roads++) {
            for (int shown = 0; shown < roads; shown++) {
                due("without a law 1", (shown + 1) % roads, arm(roads, shown, "").by(0, 1));
                for (int n : moves) {
                    int size = Math.abs(n);
                    String told = (n < 0 ? "0-" : "") + (size == 1000000 ? MILLION : "" + size);
                    int want = ((shown + n) % roads + roads) % roads;
                    SignTurn x = arm(roads, shown, "turns:" + told + ";");
                    due("by " + roads + " roads from " + shown + " on " + n, want, x.by(0, 1));
                    x.step();
                    due("stepping so", want, x.post(0, 0));
                    due("the arm of the other one stays", 0, x.post(1, 0));
                }
            }
        }
        // To itself, too, the arm moves on behind the step; the arm of the one it comes to doesn't.
        SignTurn y = Check.of("moor posts 2;road 0 0;road 0 1;road 1 0;road 1 0;");
        due("to itself", 0, y.step());
        due("moved on", 1, y.post(0, 0));
        due("to the other one", 1, y.step());
        due("the first one behind the last", 0, y.post(0, 0));
        due("not moved on", 0, y.post(1, 0));
    }

    /** "At a home, at a POST without roads there is no STEP: it RESTS there." */
    private static void noStepAtRest() {
        for (String laws : new String[] {"", "sticks:1=1;", "turns:2;"}) {
            Twin.refused("at a home with roads", -12, () -> Check.of(RING + "home 0;" + laws), SignTurn::step);
            Twin.refused("without roads", -12, () -> Check.of("moor posts 2;road 0 1;walker 1;" + laws), SignTurn::step);
            Twin.refused("at a home without roads", -12, () -> Check.of("moor posts 1;home 0;" + laws), SignTurn::step);
        }
        due("a step to a home", 1, Check.of(RING + "home 1;").step());
        Twin.refused("without a text", -12, SignTurn::new, SignTurn::step);
    }

    private static void holds(String truth) {
        SignTurn x = Check.of("moor posts 6;road 5 0;road 5 0;road 5 0;arm 5 2;fog 9;sticks:" + truth + ";");
        due(truth + " holds", 5, x.by(5, 0));
        SignTurn y = Check.of("moor posts 6;road 5 0;road 5 0;road 5 0;arm 5 2;fog 9;sticks:not[" + truth + "];");
        due("not " + truth + " doesn't", 0, y.by(5, 0));
    }

    /** "post: the POST; arm: the road it shows ahead; roads: how many it has; fog: the FOG", at their greatest. */
    private static void names() {
        holds("post=5 and arm=2 and roads=3 and fog=9");
        SignTurn x = arm(1, 0, "sticks:post=0 and arm=0 and roads=1 and fog=0;");
        due("at their least", 0, x.by(0, 0));
        // The arm ahead of the step, not the one it moves on to; in the other post's law its own.
        due("turns knows the arm ahead", 1, arm(3, 2, "turns:arm;").by(0, 1));
        due("from 1", 2, arm(3, 1, "turns:arm;").by(0, 1));
        due("from 0", 0, arm(3, 0, "turns:arm;").by(0, 1));
        SignTurn y = Check.of("moor posts 3;road 0 1;road 1 2;road 1 2;road 2 0;road 2 0;road 2 0;turns:post;");
        due("post 0", 0, y.by(0, 1));
        due("post 1", 1, y.by(1, 1));
        due("post 2", 2, y.by(2, 1));
    }

    /** "Each + - * is kept from -1,000,000 to 1,000,000". */
    private static void keptWithinBounds() {
        String most = "(" + MILLION + ")";
        String least = "(0-" + MILLION + ")";
        holds("999*999+999+999+1=" + most);
        holds("999*999+999+999<" + most);
        holds("999*999+999+999+2=" + most);
        holds(most + ">" + most + "-1");
        holds(most + "+1=" + most);
        holds(most + "+" + most + "=" + most);
        holds(most + "*2=" + most);
        holds(most + "*" + most + "=" + most);
        holds(most + "-" + least + "=" + most);
        holds(least + "*" + least + "=" + most);
        holds(least + "<" + least + "+1");
        holds(least + "-1=" + least);
        holds(least + "+" + least + "=" + least);
        holds(least + "-" + most + "=" + least);
        holds(least + "*2=" + least);
        holds(least + "*" + most + "=" + least);
        holds(most + "*" + least + "=" + least);
        holds("0-999*999-999-999-1=" + least);
        holds("0-999*999-999-999>" + least);
        holds("0-999*999-999-999-2=" + least);
        // Each is kept, not the last alone.
        holds(most + "+1-1=" + most + "-1");
        holds(least + "-1+1=" + least + "+1");
        holds(most + "*2-1=" + most + "-1");
        holds("2*" + most + "*0=0");
        holds(most + "+" + least + "=0");
        holds("if 1=1 then " + most + " else 0 end+1=" + most);
    }

    /** "UNIT .. one of = < >", "BOTH { or BOTH }", "UNIT { and UNIT }", "if tells the one SUM, if the TRUTH holds, else the other one". */
    private static void truths() {
        String[] sides = {"0", "1", "2", "(0-1)", "999", "(0-999)"};
        int[] values = {0, 1, 2, -1, 999, -999};
        for (int i = 0; i < sides.length; i++) {
            for (int k = 0; k < sides.length; k++) {
                String[] truth = {sides[i] + "=" + sides[k], sides[i] + "<" + sides[k], sides[i] + ">" + sides[k]};
                boolean[] is = {values[i] == values[k], values[i] < values[k], values[i] > values[k]};
                for (int t = 0; t < 3; t++) {
                    holds(is[t] ? truth[t] : "not " + truth[t]);
                    holds("if " + truth[t] + " then 4 else 7 end=" + (is[t] ? 4 : 7));
                }
            }
        }
        String[] of = {"1=2", "1=1"};
        for (int a = 0; a < 2; a++) {
            for (int b = 0; b < 2; b++) {
                holds((a & b) != 0 ? of[a] + " and " + of[b] : "not[" + of[a] + " and " + of[b] + "]");
                holds((a | b) != 0 ? of[a] + " or " + of[b] : "not[" + of[a] + " or " + of[b] + "]");
                for (int c = 0; c < 2; c++) {
                    holds((a | b & c) != 0 ? of[a] + " or " + of[b] + " and " + of[c] : "not[" + of[a] + " or " + of[b] + " and " + of[c] + "]");
                    holds((a & b | c) != 0 ? of[a] + " and " + of[b] + " or " + of[c] : "not[" + of[a] + " and " + of[b] + " or " + of[c] + "]");
                }
            }
        }
        holds("not 1=2 and 1=1");
        holds("not[not 1=2 and 1=2]");
        holds("not[[1=1 or 1=1]and 1=2]");
        holds("1+2*3=7");
        holds("2*3+1=7");
        holds("(1+2)*3=9");
        holds("9-3-2=4");
        holds("9-(3-2)=8");
        holds("if 1=1 then 1 else 2 end+if 1=2 then 1 else 2 end=3");
        holds("if 1=2 then 1 else if 1=2 then 2 else 3 end end=3");
        holds("if 1=1 then if 1=2 then 2 else 3 end else 1 end=3");
    }

    // ---- 5, 6

    private static void post() {
        SignTurn x = Check.of(MANY);
        for (int p = 0; p < 6; p++) {
            due("roads of " + p, ROADS[p], x.post(p, 1));
            due("no home", 0, x.post(p, 2));
        }
        due("the last road", 1, x.post(3, 12));
        due("the first road", 2, x.post(3, 10));
        for (int p = 0; p < 6; p++) {
            for (int what = 10 + ROADS[p]; what <= 13; what++) {
                int q = p;
                int road = what;
                Twin.refused("no such road " + p + " " + what, -2, () -> Check.of(MANY), y -> y.post(q, road));
            }
        }
        for (int what : new int[] {-1, 3, 4, 9, 13, 14, 20, MIN, MAX}) {
            refused("post what " + what, -2, y -> y.post(2, what));
        }
        for (int p : new int[] {-1, 4, 5, 6, 7, MIN, MAX}) {
            for (int what : new int[] {0, 1, 2, 10}) {
                refused("no post " + p, -2, y -> y.post(p, what));
            }
        }
    }

    private static void by() {
        for (int p : new int[] {-1, 4, 6, MIN, MAX}) {
            refused("by of no post", -2, x -> x.by(p, 0));
            refused("by of no post, nor what", -2, x -> x.by(p, 5));
        }
        for (int what : new int[] {-1, 2, 10, MIN, MAX}) {
            refused("by what " + what, -2, x -> x.by(0, what));
            refused("by what " + what + " ahead of no roads", -2, x -> x.by(3, what));
        }
        refused("by without roads, where", -5, x -> x.by(3, 0));
        refused("by without roads, its arm", -5, x -> x.by(3, 1));
        Twin.refused("by without roads nor home", -5, () -> Check.of("moor posts 2;"), x -> x.by(1, 0));
        // "homes: as if they were none": also where the walker is, and where it comes to.
        Twin.asks("by at a home", 1, () -> Check.of(RING + "home 0;home 1;"), x -> x.by(0, 0));
        Twin.asks("by at another home", 2, () -> Check.of(RING + "home 0;home 1;"), x -> x.by(1, 0));
        Twin.asks("by wraps the arm around", 0, () -> arm(3, 2, ""), x -> x.by(0, 1));
    }

    // ---- 7 to 11

    private static void step() {
        SignTurn x = Check.of(RING + "home 2;");
        due("the first", 1, x.step());
        due("to a home", 2, x.step());
        due("no further", -12, x.step());
        due("steps", 2, x.count(6));
        due("calls", 2, x.count(7));
    }

    private static void steps() {
        for (int n : new int[] {0, -1, 100, 101, MIN, MAX}) {
            refused("steps " + n, -3, x -> x.steps(n));
            Twin.refused("steps " + n + " ahead of resting", -3, SignTurn::new, x -> x.steps(n));
        }
        SignTurn x = Check.of(RING);
        due("steps 1", 1, x.steps(1));
        due("where", 1, x.count(3));
        due("steps 99", 99, x.steps(99));
        due("where", 1, x.count(3));
        due("all", 100, x.count(6));
        due("two calls", 2, x.count(7));
        SignTurn y = Check.of(RING + "home 2;");
        due("till it rests", 2, y.steps(99));
        due("where it rests", 2, y.count(3));
        due("just as many", 2, Check.of(RING + "home 2;").steps(2));
        due("fewer", 1, Check.of(RING + "home 2;").steps(1));
        // "(0: nothing was done)".
        for (int n : new int[] {1, 2, 99}) {
            Twin.asks("steps at a home", 0, () -> Check.of(RING + "home 0;"), z -> z.steps(n));
            Twin.asks("steps without roads", 0, () -> Check.of("moor posts 1;"), z -> z.steps(n));
        }
        due("waiting is a step", 5, arm(2, 0, "sticks:1=1;").steps(5));
    }

    private static void turn() {
        int[][] none = {{-1, 0}, {4, 0}, {6, 0}, {0, -1}, {0, 2}, {0, 3}, {2, 3}, {3, 0}, {3, -1}, {MIN, 0}, {MAX, 0}, {0, MIN}, {0, MAX}};
        for (int[] pair : none) {
            refused("turn " + pair[0] + " to " + pair[1], -11, x -> x.turn(pair[0], pair[1]));
        }
        Twin.refused("turn without a text", -11, SignTurn::new, x -> x.turn(0, 0));
        SignTurn x = Check.of(MANY);
        for (int p = 0; p < 6; p++) {
            for (int road = 0; road < ROADS[p]; road++) {
                due("turn " + p + " to " + road, Math.max(0, road - 1), x.turn(p, road));
                due("it shows", road, x.post(p, 0));
            }
            due("not beyond its last", -11, x.turn(p, ROADS[p]));
            due("it still shows", Math.max(0, ROADS[p] - 1), x.post(p, 0));
        }
        due("where the walker is not, nor at rest", 1, Check.of(RING + "road 1 1;arm 1 1;home 0;home 1;").turn(1, 0));
    }

    private static void setsOut() {
        for (int p : new int[] {-1, 4, 5, 6, MIN, MAX}) {
            refused("setsOut " + p, -11, x -> x.setsOut(p));
        }
        Twin.refused("setsOut without a text", -11, SignTurn::new, x -> x.setsOut(1));
        SignTurn x = Check.of(MANY);
        due("to the last", 2, x.setsOut(5));
        due("to the first", 5, x.setsOut(0));
        due("to the same", 0, x.setsOut(0));
        due("each was done", 3, x.count(7));
        due("no steps", 0, x.count(6));
    }

    private static void fog() {
        for (int n : new int[] {-1, 10, 11, MIN, MAX}) {
            refused("fog " + n, -11, x -> x.fog(n));
            Twin.refused("fog without a text " + n, -11, SignTurn::new, x -> x.fog(n));
        }
        SignTurn x = Check.of(MANY);
        due("to the greatest", 0, x.fog(9));
        due("to the least", 9, x.fog(0));
        due("to the same", 0, x.fog(0));
        due("each was done", 3, x.count(7));
        due("without a text", 0, new SignTurn().fog(9));
    }

    // ---- 12

    /** "10 at most (eldest are forgotten)". */
    private static void tenAtMost() {
        for (int calls = 0; calls <= 23; calls++) {
            SignTurn x = Check.of(RING);
            for (int i = 0; i < calls; i++) {
                x.step();
            }
            int can = Math.min(10, calls);
            due("can be undone", can, x.count(7));
            due("not more", -3, x.undo(can + 1));
            for (int i = 1; i <= can; i++) {
                due("undo, the latest first", can - i, x.undo(1));
                due("steps then", calls - i, x.count(6));
                due("where then", (calls - i) % 3, x.count(3));
            }
            due("no more", -3, x.undo(1));
            due("and nothing is changed by it", calls - can, x.count(6));
        }
        SignTurn y = Check.of(RING);
        for (int i = 0; i < 15; i++) {
            y.step();
        }
        due("undo of five", 5, y.undo(5));
        for (int i = 0; i < 7; i++) {
            y.fog(i);
        }
        due("full again", 10, y.count(7));
        due("undo of all ten", 0, y.undo(10));
        due("two of the eldest were forgotten", 7, y.count(6));
        due("fog", 0, y.count(5));
    }

    private static SignTurn atRest() {
        SignTurn x = Check.of(RING + "home 1;");
        x.step();
        x.numbers(0, 0, 1);
        x.numbers(1, 0, 0);
        Check.tray(x, 2, 1, 0, 10);
        return x;
    }

    /** "Calls that did some can be UNDONE": those that did none can't. */
    private static void callsThatDidNone() {
        Twin.refused("step at rest", -12, DeedEdgeTest::atRest, SignTurn::step);
        Twin.refused("steps at rest", 0, DeedEdgeTest::atRest, x -> x.steps(9));
        Twin.refused("turn of none", -11, DeedEdgeTest::atRest, x -> x.turn(0, 1));
        Twin.refused("setsOut of none", -11, DeedEdgeTest::atRest, x -> x.setsOut(3));
        Twin.refused("fog of none", -11, DeedEdgeTest::atRest, x -> x.fog(10));
        Twin.refused("perform what can't be", 0, DeedEdgeTest::atRest, x -> x.perform(0));
        Twin.refused("perform nothing", 0, DeedEdgeTest::atRest, x -> x.perform(1));
        Twin.refused("perform ends at the first", 0, DeedEdgeTest::atRest, x -> x.perform(2));
        Twin.refused("year of steps at rest", 0, DeedEdgeTest::atRest, x -> x.year(1, 2));
        for (int what = 0; what < 4; what++) {
            int k = what;
            Twin.refused("judge " + what, new int[] {0, 2, 1, 0}[what], DeedEdgeTest::atRest, x -> x.judge(0, k));
        }
    }

    /** "each as a whole", "the WALKER, ARMS, FOG, STEPS". */
    private static void eachAsAWhole() {
        SignTurn x = Check.of(MANY + "fog 3;");
        Check.tray(x, 0, 1, 0, 15, 132, 25, 0, 23, 0);
        due("perform", 7, x.perform(0));
        due("steps", 4, x.steps(4));
        int done = x.year(9, 40);
        due("a year did some", 1, done > 0 ? 1 : 0);
        due("three calls", 3, x.count(7));
        due("the year, the steps and the deeds undone", 0, x.undo(3));
        int[] want = {2, 0, 3, 0, 0};
        for (int what = 3; what <= 7; what++) {
            due("as it was, count " + what, want[what - 3], x.count(what));
        }
    }

    private static void twice(String call, ToLongFunction<SignTurn> first, ToLongFunction<SignTurn> second) {
        SignTurn x = Check.of(MANY + "fog 3;");
        Check.tray(x, 0, 1, 0, 15, 132, 23);
        Check.tray(x, 1, 1, 21, 0, 111);
        int[] before = new int[4];
        int[] between = new int[4];
        for (int k = 0; k < 4; k++) {
            before[k] = x.count(3 + k);
        }
        due(call + " is done", 1, first.applyAsLong(x) >= 0 ? 1 : 0);
        for (int k = 0; k < 4; k++) {
            between[k] = x.count(3 + k);
        }
        due(call + " is done again", 1, second.applyAsLong(x) >= 0 ? 1 : 0);
        due(call + ", two calls", 2, x.count(7));
        due(call + " undone", 1, x.undo(1));
        for (int k = 0; k < 4; k++) {
            due(call + " undone, count " + (3 + k), between[k], x.count(3 + k));
        }
        due(call + " undone again", 0, x.undo(1));
        for (int k = 0; k < 4; k++) {
            due(call + " undone again, count " + (3 + k), before[k], x.count(3 + k));
        }
    }

    /** Each call that does some, twice, so that what it brings back is of its own. */
    private static void eachKindIsUndone() {
        twice("step", SignTurn::step, SignTurn::step);
        twice("steps", x -> x.steps(3), x -> x.steps(1));
        twice("turn", x -> x.turn(3, 2), x -> x.turn(2, 1));
        twice("setsOut", x -> x.setsOut(5), x -> x.setsOut(3));
        twice("fog", x -> x.fog(9), x -> x.fog(0));
        twice("perform", x -> x.perform(0), x -> x.perform(0));
        twice("year", x -> x.year(1, 9), x -> x.year(2, 9));
        twice("fog ahead of a step", x -> x.fog(9), SignTurn::step);
        twice("a step ahead of steps", SignTurn::step, x -> x.steps(2));
        twice("a turn ahead of setsOut", x -> x.turn(3, 2), x -> x.setsOut(5));
        twice("setsOut ahead of a turn", x -> x.setsOut(5), x -> x.turn(2, 1));
        twice("steps ahead of perform", x -> x.steps(3), x -> x.perform(0));
        twice("perform ahead of a year", x -> x.perform(0), x -> x.year(2, 9));
        twice("a year ahead of fog", x -> x.year(2, 9), x -> x.fog(8));
    }

    /** "n calls (1 to 10) are UNDONE: how many still can be. -3: n, more than can be". */
    private static void undo() {
        for (int n : new int[] {0, -1, 4, 5, 10, 11, MIN, MAX}) {
            refused("undo " + n + " of three", -3, x -> x.undo(n));
        }
        for (int n : new int[] {0, 1, 10, -1}) {
            Twin.refused("undo " + n + " of none", -3, SignTurn::new, x -> x.undo(n));
        }
        for (int n : new int[] {0, 11, 12, -1, MIN, MAX}) {
            Twin.refused("undo " + n + " of ten", -3, DeedEdgeTest::tenFogs, x -> x.undo(n));
        }
        for (int n = 1; n <= 10; n++) {
            SignTurn x = tenFogs();
            due("undo " + n + " of ten", 10 - n, x.undo(n));
            due("fog then", (12 - n) % 10, x.count(5));
        }
        SignTurn x = Twin.rich();
        due("undo 3 of three", 0, x.undo(3));
        due("steps", 0, x.count(6));
    }

    /** Twelve fogs one after another: 1, 2 .. 9, 0, 1, 2. */
    private static SignTurn tenFogs() {
        SignTurn x = Check.of(RING);
        for (int i = 1; i <= 12; i++) {
            x.fog(i % 10);
        }
        return x;
    }

    // ---- 13, 14

    /** Why a deed alone can't be on MANY, with the walker at a post. */
    private static int whyNot(long v, int walker) {
        if (v == 0) {
            return ROADS[walker] == 0 ? 2 : 0;
        }
        if (v >= 10 && v <= 19 || v >= 20 && v <= 25) {
            return 0;
        }
        if (v >= 100 && v <= 159) {
            return v % 10 < ROADS[(int) (v - 100) / 10] ? 0 : 1;
        }
        return 1;
    }

    /** "0: a STEP; 10 to 19: ..; 20 to 29: ..; 100 to 199: ..; others: 1": each number from below the least to above the greatest. */
    private static void everyDeed() {
        for (int v = -30; v <= 290; v++) {
            oneDeed(v, 2);
            oneDeed(v, 0);
            oneDeedOfAll(v);
        }
        for (long v : new long[] {1L << 32, (1L << 32) + 10, (1L << 32) + 20, (1L << 32) + 110, -(1L << 32), 1L << 40, MIN, MAX,
            Long.MIN_VALUE, Long.MIN_VALUE + 10, Long.MAX_VALUE, 256 + 10, 65536 + 20}) {
            oneDeed(v, 2);
        }
    }

    /** Where all posts have three roads, each arm can be turned to each of these and to no other. */
    private static void oneDeedOfAll(int v) {
        StringBuilder text = new StringBuilder("moor posts 6;");
        for (int i = 0; i < 18; i++) {
            text.append("road ").append(i % 6).append(" 0;");
        }
        for (int p = 0; p < 6; p++) {
            text.append("arm ").append(p).append(" 1;");
        }
        SignTurn x = Check.of(text.toString());
        Check.tray(x, 0, 1, v);
        boolean turns = v >= 100 && v < 160 && v % 10 < 3;
        boolean can = turns || v == 0 || v >= 10 && v < 26;
        due("perform " + v, can ? 1 : 0, x.perform(0));
        for (int p = 0; p < 6; p++) {
            int shown = turns && v / 10 - 10 == p ? v % 10 : v == 0 && p == 0 ? 2 : 1;
            due("the arm of " + p + " by " + v, shown, x.post(p, 0));
        }
    }

    private static void oneDeed(long v, int walker) {
        SignTurn x = Check.of(MANY + "walker " + walker + ";fog 5;");
        Check.tray(x, 0, 3, v);
        int why = whyNot(v, walker);
        due("judge " + v, why == 0 ? -1 : 0, x.judge(0, 0));
        due("why not " + v, why, x.judge(0, 1));
        int where = walker;
        int fog = 5;
        int arms = 0;
        if (why == 0 && v == 0) {
            where = 3;
            arms = 9;
        } else if (why == 0 && v < 20) {
            fog = (int) v - 10;
        } else if (why == 0 && v < 30) {
            where = (int) v - 20;
        } else if (why == 0) {
            arms = (int) v % 10;
            for (int p = 0; p < (v - 100) / 10; p++) {
                arms *= 3;
            }
        }
        due("judged where by " + v, where, x.judge(0, 2));
        due("judged arms by " + v, arms, x.judge(0, 3));
        due("perform " + v, why == 0 ? 1 : 0, x.perform(0));
        due("where by " + v, where, x.count(3));
        due("arms by " + v, arms, x.count(4));
        due("fog by " + v, fog, x.count(5));
        due("steps by " + v, why == 0 && v == 0 ? 1 : 0, x.count(6));
        due("undone by " + v, why == 0 ? 1 : 0, x.count(7));
    }

    private static void judge() {
        for (int tray : new int[] {-1, 4, 5, MIN, MAX}) {
            refused("judge tray " + tray, -2, x -> x.judge(tray, 0));
            refused("judge tray and what " + tray, -2, x -> x.judge(tray, 4));
        }
        for (int what : new int[] {-1, 4, 5, MIN, MAX}) {
            refused("judge what " + what, -2, x -> x.judge(0, what));
            refused("judge what " + what + " ahead of a missing tray", -2, x -> x.judge(3, what));
        }
        for (int what = 0; what < 4; what++) {
            int k = what;
            refused("judge a missing tray", -6, x -> x.judge(3, k));
            refused("judge a tray of none", new int[] {-1, 0, 1, 10}[k], x -> x.judge(1, k));
        }
    }

    private static void perform() {
        for (int tray : new int[] {-1, 4, 5, MIN, MAX}) {
            refused("perform tray " + tray, -2, x -> x.perform(tray));
        }
        refused("perform a missing tray", -6, x -> x.perform(3));
        refused("perform a tray of none", 0, x -> x.perform(1));
        SignTurn x = Check.of(MANY);
        Check.tray(x, 0, 0, 20, 0, 21);
        due("till one can't be", 1, x.perform(0));
        due("what is behind it isn't done", 0, x.count(3));
        due("it can be undone", 0, x.undo(1));
        due("where", 2, x.count(3));
    }

    /** A tray of 40: the first and the last place that can't be. */
    private static void fullTray() {
        for (int bad = 0; bad <= 40; bad++) {
            SignTurn x = Check.of(RING);
            x.numbers(2, 0, 40);
            if (bad < 40) {
                x.write(2, bad, 1);
            }
            due("judge place " + bad, bad == 40 ? -1 : bad, x.judge(2, 0));
            due("judge why at " + bad, bad == 40 ? 0 : 1, x.judge(2, 1));
            due("judge where at " + bad, bad % 3, x.judge(2, 2));
            due("perform up to " + bad, bad, x.perform(2));
            due("steps", bad, x.count(6));
            due("one call, or none", bad == 0 ? 0 : 1, x.count(7));
        }
    }

    // ---- 15

    private static void year() {
        for (int times : new int[] {0, -1, 41, 42, MIN, MAX}) {
            refused("year of " + times, -3, x -> x.year(1, times));
            Twin.refused("year of " + times + " without a text", -3, SignTurn::new, x -> x.year(MIN, times));
        }
        due("a year of one", 1, Check.of(RING).year(1, 1));
    }

    /** "x, an int": the draws wrap around as ints do, and are the upper 16 bits, never below 0. */
    private static void yearBySeeds() {
        for (int seed : new int[] {0, 1, -1, 2, 12345, -12345, MIN, MIN + 1, MAX, MAX - 1, 1 << 30, 0x5eed, -99999, 65535, 65536}) {
            for (int times : new int[] {1, 2, 17, 39, 40}) {
                oneYear(seed, times);
            }
        }
        for (int seed = 100; seed < 300; seed++) {
            oneYear(seed * 7654321, 40);
        }
    }

    private static void oneYear(int seed, int times) {
        SignTurn x = Check.of(MANY);
        SignTurn plain = Check.of(MANY);
        long drawn = seed & 0xffffffffL;
        long[] draws = new long[121];
        for (int i = 0; i < draws.length; i++) {
            drawn = (drawn * 1103515245L + 12345) & 0xffffffffL;
            draws[i] = drawn / 65536;
        }
        int next = 0;
        int could = 0;
        for (int i = 0; i < times; i++) {
            int kind = (int) (draws[next++] % 6);
            int answer;
            if (kind < 3) {
                answer = plain.step();
            } else if (kind == 3) {
                answer = plain.fog((int) (draws[next++] % 10));
            } else if (kind == 4) {
                answer = plain.setsOut((int) (draws[next++] % 6));
            } else {
                int p = (int) (draws[next++] % 6);
                answer = plain.turn(p, (int) (draws[next++] % 3));
            }
            could += answer >= 0 ? 1 : 0;
        }
        due("year " + seed + " " + times, could, x.year(seed, times));
        for (int what = 3; what <= 6; what++) {
            due("count " + what + " behind year " + seed + " " + times, plain.count(what), x.count(what));
        }
        due("one call, or none", could == 0 ? 0 : 1, x.count(7));
    }
}
