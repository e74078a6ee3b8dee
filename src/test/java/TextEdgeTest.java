/** The edges that the document names for texts: "Terms" up to ==== 2., promises 1 to 4. A ^ marks a fault's place. */
final class TextEdgeTest {
    private static final String TWO = "moor posts 2;road 0 1;";
    private static final String SIGNS = ";:+-*()[]=<>";

    private TextEdgeTest() {
    }

    public static void main(String[] args) {
        withoutText();
        textOf900();
        everyByte();
        blanks();
        tokensGoOn();
        numbersOfThreeDigits();
        linesAreCounted();
        postsOneToSix();
        roadsThreeAtMost();
        armsThatAreTold();
        homesSomeOrNone();
        walkerAndFog();
        laterOnesStrike();
        sixWithinOneAnother();
        seventhOfEach();
        theFirstAlong();
        theLeastKind();
        theEnd();
        moorFirstAndOnce();
        feedFillsTheTape();
        feedKeepsBytes();
        moorOfTooMany();
        moorEmptiesTheTape();
        moorBeginsAnew();
        moorLeavesNothing();
        faultLeavesAll();
        faultIsOfTheLatest();
        Check.end();
    }

    private static void due(String call, long want, long got) {
        Check.due(call, want, got);
    }

    private static SignTurn lines(int want, String text) {
        SignTurn x = new SignTurn();
        due("moor " + text, want, Check.tell(x, text));
        due("no fault of " + text, 0, x.fault(0));
        due("no place of " + text, -1, x.fault(1));
        return x;
    }

    private static void faulty(int kind, String marked) {
        int place = marked.indexOf('^');
        String text = marked.substring(0, place) + marked.substring(place + 1);
        SignTurn x = new SignTurn();
        due("moor " + marked, -30 - kind, Check.tell(x, text));
        due("fault of " + marked, kind, x.fault(0));
        due("place of " + marked, place, x.fault(1));
    }

    // ---- the text

    /** "without one: 1 POST, a home, the walker there, FOG 0"; promise 1: "1 POST, a home". */
    private static void withoutText() {
        SignTurn x = new SignTurn();
        due("one post", 1, x.count(0));
        due("no second", -2, x.post(1, 0));
        due("a home", 1, x.post(0, 2));
        due("homes as bits", 1, x.count(2));
        due("no roads", 0, x.post(0, 1));
        due("no roads in all", 0, x.count(1));
        due("no step even if it were no home", -5, x.by(0, 0));
        due("its arm", 0, x.post(0, 0));
        due("the walker there", 0, x.count(3));
        due("fog 0", 0, x.count(5));
        due("it rests", 0, x.rests());
        due("no steps", 0, x.count(6));
        due("nothing can be undone", -3, x.undo(1));
        due("the tape is empty", 0, x.count(8));
        due("no fault", 0, x.fault(0));
        due("no place", -1, x.fault(1));
        for (int i = 0; i < 2; i++) {
            due("no images", -5, x.restore(i));
        }
        for (int tray = 0; tray < 4; tray++) {
            due("no trays", -6, x.lists(tray));
        }
    }

    /** "a TEXT of at most 900 bytes": all 900 belong to it, the last one, too. */
    private static void textOf900() {
        String most = "moor posts 1;" + " ".repeat(881) + "fog 7";
        due("the last line is read", 7, lines(2, most + ";").count(5));
        cutText();
        due("length", 900, most.length() + 1);
        faulty(1, most + "^?");
        faulty(2, most + " ^");
        faulty(2, most + "^:");
        faulty(2, most + "^a");
        lines(148, "moor posts 1;" + "fog 1;".repeat(147) + " ".repeat(5));
        lines(2, "moor posts 1;turns:" + "1+".repeat(439) + "10;");
    }

    /** "The first n bytes": what lies behind them on the tape doesn't go on with the last token. */
    private static void cutText() {
        SignTurn x = new SignTurn();
        Check.feed(x, "moor posts 12345;");
        due("cut within digits", -32, x.moor(12));
        due("the end is there", 12, x.fault(1));
        Check.feed(x, "moor posts 1;fogs 1;");
        due("cut within a word", -32, x.moor(16));
        due("the end is there", 16, x.fault(1));
        Check.feed(x, "moor posts 1;  ???");
        due("cut within blanks", 1, x.moor(14));
        Check.feed(x, "moor posts 1;?");
        due("cut ahead of what is no token", 1, x.moor(13));
    }

    /** "words (small letters), N (1 to 3 digits), the signs ; : + - * ( ) [ ] = < >", blanks "(10, 32)"; "1 no TOKEN begins so". */
    private static void everyByte() {
        for (int b = 0; b < 256; b++) {
            char c = (char) b;
            boolean token = c >= 'a' && c <= 'z' || c >= '0' && c <= '9' || SIGNS.indexOf(c) >= 0;
            for (String ahead : new String[] {"", "moor posts 1;", "moor posts ", "moor ", TWO + "turns:1", TWO + "sticks:1=1"}) {
                String text = ahead + c;
                int kind = token ? 2 : 1;
                int place = ahead.length();
                SignTurn x = new SignTurn();
                int got = Check.tell(x, text);
                if (c == 10 || c == 32) {
                    boolean whole = ahead.equals("moor posts 1;");
                    kind = whole ? 0 : 2;
                    place = whole ? -1 : ahead.length() + 1;
                } else if (goesOn(ahead, c)) {
                    kind = -1;
                }
                if (kind >= 0) {
                    due("moor " + ahead + " and byte " + b, kind == 0 ? 1 : -30 - kind, got);
                    due("fault of byte " + b, kind, x.fault(0));
                    due("place of byte " + b, place, x.fault(1));
                }
            }
        }
    }

    /** Whether the sign belongs to what stands ahead of it, or may follow it. */
    private static boolean goesOn(String ahead, char c) {
        if (ahead.endsWith("posts ")) {
            return c >= '0' && c <= '9';
        }
        if (ahead.endsWith(":1") || ahead.endsWith("=1")) {
            return c >= '0' && c <= '9' || ";+-*".indexOf(c) >= 0;
        }
        return ahead.equals("moor ") && c >= 'a' && c <= 'z';
    }

    /** "between them blanks (10, 32)": none or many of both, and no others. */
    private static void blanks() {
        lines(1, "moor posts 1;");
        lines(1, "\n\n  \nmoor\n posts \n1 \n;\n  \n");
        lines(2, "moor posts1;fog9;");
        for (char c : new char[] {0, 8, 9, 11, 12, 13, 31, 33, 127, 128, 138, 160, 255}) {
            faulty(1, "moor^" + c + "posts 1;");
            faulty(1, "^" + c);
        }
    }

    /** "TOKENS, as long as they go on". */
    private static void tokensGoOn() {
        faulty(2, "^moorposts 1;");
        faulty(2, "^moo posts 1;");
        faulty(2, "^moors posts 1;");
        faulty(2, "moor ^post 1;");
        faulty(2, "moor ^postss 1;");
        faulty(2, TWO + "^roa 0 1;");
        faulty(2, TWO + "^foga 1;");
        faulty(2, TWO + "^fogz 1;");
        faulty(2, TWO + "fog 1 ^a;");
        faulty(2, TWO + "fog 1^z;");
        faulty(2, TWO + "^roadarm 0 1;");
        faulty(2, TWO + "road 01^;");
        faulty(2, TWO + "fog 1 ^2;");
        faulty(2, TWO + "turns:^ar;");
        faulty(2, TWO + "turns:^posts;");
        faulty(2, TWO + "turns:^roadsroads;");
        faulty(2, TWO + "sticks:^notnot 1=1;");
        faulty(2, TWO + "sticks:1=1^an 1=1;");
        faulty(2, TWO + "sticks:1=1^orr 1=1;");
        faulty(2, TWO + "turns:1 ^2;");
        lines(3, TWO + "sticks:1=1and 1=1or not 1=1;");
        lines(3, TWO + "turns:if 1=1then 1else 1end+1;");
        lines(3, TWO + "sticks:not not 1=1;");
    }

    /** "N (1 to 3 digits)"; "4 digits and more: at their first". */
    private static void numbersOfThreeDigits() {
        for (String n : new String[] {"0", "9", "00", "10", "99", "000", "009", "100", "999"}) {
            lines(3, TWO + "turns:" + n + ";");
        }
        for (String n : new String[] {"0000", "0001", "1000", "9999", "12345", "4294967297", "00000000000000000000001"}) {
            faulty(1, TWO + "turns:^" + n + ";");
            faulty(1, TWO + "fog ^" + n + ";");
            faulty(1, "moor posts ^" + n + ";");
            faulty(1, TWO + "^" + n);
            faulty(1, "^" + n);
        }
        due("009 is 9", 9, lines(3, TWO + "fog 009;").count(5));
        due("002 is 2", 2, lines(1, "moor posts 002;").count(0));
        due("999 is 999", 1, lines(4, TWO + "turns:999;sticks:999=990+9;").by(0, 1) == 0 ? 1 : 0);
    }

    /** "how many LINES (moor, too ..)": moor alone is one. */
    private static void linesAreCounted() {
        due("one line", 1, lines(1, "moor posts 6;").count(9));
        due("two lines", 2, lines(2, "moor posts 6;home 5;").count(9));
        faulty(2, "moor posts 6;^;");
        faulty(2, "moor posts 6;home 5;^;");
    }

    /** "how many POSTS, 1 to 6, numbered from 0 on": the last one there is, and the one behind it. */
    private static void postsOneToSix() {
        for (int n = 0; n <= 12; n++) {
            if (n < 1 || n > 6) {
                faulty(3, "moor posts ^" + n + ";");
                continue;
            }
            String head = "moor posts " + n + ";";
            int last = n - 1;
            SignTurn x = lines(5, head + "road " + last + " " + last + ";arm " + last + " 0;home " + last + ";walker " + last + ";");
            due("posts", n, x.count(0));
            due("the last one's road", last, x.post(last, 10));
            due("none behind it", -2, x.post(n, 0));
            due("the walker at the last", last, x.count(3));
            due("the last is a home", 1 << last, x.count(2));
            for (String line : new String[] {"road ^# 0;", "road 0 ^#;", "arm ^# 0;", "home ^#;", "walker ^#;"}) {
                faulty(3, head + line.replace("#", "" + n));
                faulty(3, head + line.replace("#", "999"));
            }
        }
    }

    /** "from a POST to one (itself, too; alike ones, too), .. numbered from 0 on as told, 3 at most"; "the first N of a 4th road". */
    private static void roadsThreeAtMost() {
        SignTurn x = lines(4, "moor posts 3;road 1 1;road 1 2;road 1 2;");
        due("road 0, to itself", 1, x.post(1, 10));
        due("road 1", 2, x.post(1, 11));
        due("road 2, alike", 2, x.post(1, 12));
        due("three", 3, x.post(1, 1));
        StringBuilder all = new StringBuilder("moor posts 6;");
        for (int i = 0; i < 18; i++) {
            all.append("road ").append(i % 6).append(' ').append(i / 6).append(';');
        }
        due("eighteen roads", 18, lines(19, all.toString()).count(1));
        for (int p = 0; p < 6; p++) {
            faulty(3, all + "road ^" + p + " 0;");
            // The 4th road's first N is wrong already, whatever its second one is.
            faulty(3, all + "road ^" + p + " 9;");
            faulty(3, all + "road ^" + p + ";");
            faulty(3, all + "road ^" + p);
            due("the last of each", 2, lines(19, all.toString()).post(p, 12));
        }
        faulty(2, all + "road ^;");
        faulty(3, "moor posts 1;road 0 0;road 0 0;road 0 0;road ^0 0;");
    }

    /** "the road it shows, one that is told for it (0; a later one strikes)"; "an arm's road that isn't told". */
    private static void armsThatAreTold() {
        String roads = "";
        for (int told = 1; told <= 3; told++) {
            roads += "road 1 0;";
            String head = "moor posts 2;" + roads;
            due("0 if it isn't told", 0, lines(1 + told, head).post(1, 0));
            due("the last road", told - 1, lines(2 + told, head + "arm 1 " + (told - 1) + ";").post(1, 0));
            due("a later arm", 0, lines(3 + told, head + "arm 1 " + (told - 1) + ";arm 1 0;").post(1, 0));
            faulty(3, head + "arm 1 ^" + told + ";");
            faulty(3, head + "arm 1 ^999;");
            faulty(3, head + "arm 0 ^0;");
        }
        faulty(3, "moor posts 1;arm 0 ^0;");
        faulty(3, "moor posts 2;road 0 1;arm 0 ^1;road 0 1;");
        due("an arm between roads", 1, lines(5, "moor posts 2;road 0 1;road 0 1;arm 0 1;road 0 0;").post(0, 0));
        due("all arms at their last", 728, big("arm 0 2;arm 1 2;arm 2 2;arm 3 2;arm 4 2;arm 5 2;").count(4));
    }

    private static SignTurn big(String more) {
        StringBuilder all = new StringBuilder("moor posts 6;");
        for (int i = 0; i < 18; i++) {
            all.append("road ").append(i % 6).append(' ').append((i + 1) % 6).append(';');
        }
        return Check.of(all + more);
    }

    /** "home: a POST (there may be some, or none)". */
    private static void homesSomeOrNone() {
        due("none", 0, lines(1, "moor posts 6;").count(2));
        due("twice the same", 4, lines(3, "moor posts 6;home 2;home 2;").count(2));
        due("all", 63, lines(7, "moor posts 6;home 5;home 3;home 0;home 1;home 2;home 4;").count(2));
    }

    /** "walker: the POST where it is (0)", "fog 0 to 9". */
    private static void walkerAndFog() {
        due("walker if it isn't told", 0, lines(1, "moor posts 6;").count(3));
        due("fog if it isn't told", 0, lines(1, "moor posts 6;").count(5));
        for (int fog = 0; fog <= 9; fog++) {
            due("fog " + fog, fog, lines(2, "moor posts 1;fog " + fog + ";").count(5));
        }
        faulty(3, "moor posts 1;fog ^10;");
        faulty(3, "moor posts 1;fog ^999;");
    }

    /** "later ones of walker, fog, turns, sticks strike". */
    private static void laterOnesStrike() {
        due("walker", 1, lines(4, "moor posts 3;walker 2;walker 0;walker 1;").count(3));
        due("fog", 0, lines(4, "moor posts 3;fog 9;fog 5;fog 0;").count(5));
        String roads = "moor posts 2;road 0 1;road 0 1;road 0 1;";
        due("turns", 2, lines(7, roads + "turns:0;turns:1;turns:2;").by(0, 1));
        due("turns, an empty way", 0, lines(6, roads + "turns:2;turns:0;").by(0, 1));
        due("sticks, the later holds", 0, lines(6, roads + "sticks:1=2;sticks:1=1;").by(0, 0));
        due("sticks, the later doesn't", 1, lines(6, roads + "sticks:1=1;sticks:1=2;").by(0, 0));
        due("each for itself", 2, lines(7, roads + "turns:2;sticks:1=1;sticks:1=2;").by(0, 1));
    }

    // ---- six within one another

    /** "At most six of not [ ( if within one another": six of a kind, and what is closed doesn't count any more. */
    private static void sixWithinOneAnother() {
        lines(3, TWO + "turns:((((((1))))));");
        lines(3, TWO + "sticks:[[[[[[1=1]]]]]];");
        lines(3, TWO + "sticks:not not not not not not 1=1;");
        String chain = "if 1=1 then ".repeat(6) + "1" + " else 1 end".repeat(6);
        lines(3, TWO + "turns:" + chain + ";");
        String inTruth = "if ".repeat(6) + "1=1" + " then 1 else 1 end=1".repeat(5) + " then 1 else 1 end";
        lines(3, TWO + "turns:" + inTruth + ";");
        lines(3, TWO + "turns:" + "if 1=1 then 1 else ".repeat(6) + "1" + " end".repeat(6) + ";");
        lines(3, TWO + "turns:((((((1))))))+((((((1))))))*((((((1))))));");
        lines(3, TWO + "sticks:not not not not not not 1=1 and not not not not not not 1=1 or [[[[[[1=1]]]]]];");
        lines(3, TWO + "sticks:((((((1))))))=((((((1))))));");
        lines(3, TWO + "turns:if (((((1)))))=1 then (((((1))))) else (((((1))))) end;");
        lines(4, TWO + "turns:((((((1))))));sticks:((((((1))))))=1;");
        lines(3, TWO + "sticks:not[(if not[1=1]then 1 else 1 end)=1];");
        lines(3, TWO + "sticks:[not(if[not 1=1]then 1 else 1 end)=1];");
    }

    /** "4 a seventh of not [ ( if": each as the seventh within six of each other. */
    private static void seventhOfEach() {
        faulty(4, TWO + "turns:((((((^(1)))))));");
        faulty(4, TWO + "turns:((((((^if 1=1 then 1 else 1 end))))));");
        faulty(4, TWO + "sticks:[[[[[[^[1=1]]]]]]];");
        faulty(4, TWO + "sticks:[[[[[[^not 1=1]]]]]];");
        faulty(4, TWO + "sticks:[[[[[[^(1)=1]]]]]];");
        faulty(4, TWO + "sticks:[[[[[[^if 1=1 then 1 else 1 end=1]]]]]];");
        faulty(4, TWO + "sticks:[[[[[[1=^(1)]]]]]];");
        faulty(4, TWO + "sticks:[[[[[[1=1 and ^[1=1]]]]]]];");
        faulty(4, TWO + "sticks:not not not not not not ^not 1=1;");
        faulty(4, TWO + "sticks:not not not not not not ^[1=1];");
        faulty(4, TWO + "sticks:not not not not not not ^(1)=1;");
        faulty(4, TWO + "sticks:not not not not not not 1+1*^(1)=1;");
        faulty(4, TWO + "sticks:not not not not not not 1=^if 1=1 then 1 else 1 end;");
        String first = "if ".repeat(6);
        faulty(4, TWO + "turns:" + first + "^if");
        faulty(4, TWO + "turns:" + first + "^(");
        faulty(4, TWO + "turns:" + first + "^[");
        faulty(4, TWO + "turns:" + first + "^not");
        String then = "if 1=1 then ".repeat(6);
        faulty(4, TWO + "turns:" + then + "^if");
        faulty(4, TWO + "turns:" + then + "^(");
        String other = "if 1=1 then 1 else ".repeat(6);
        faulty(4, TWO + "turns:" + other + "^if");
        faulty(4, TWO + "turns:" + other + "^(");
        // All that is still open counts, a closed one doesn't: the sixth is closed here and opened anew.
        lines(3, TWO + "turns:(((((1+(1)+(1))))));");
        faulty(4, TWO + "turns:(((((1+(1)+(^(1)))))));");
        // Behind "not" what follows its UNIT is within it no more.
        lines(3, TWO + "sticks:[[[[[not 1=1 and not 1=1 or not 1=1]]]]];");
        faulty(4, TWO + "sticks:[[[[[not 1=1 and not ^not 1=1]]]]];");
    }

    // ---- faults

    /** "FAULTS, the first along the text". */
    private static void theFirstAlong() {
        faulty(3, TWO + "fog ^10;?");
        faulty(3, TWO + "road ^2 2;");
        faulty(2, TWO + "fog ^;1000");
        faulty(1, TWO + "fog ^?;fog 10;");
        faulty(4, TWO + "turns:((((((^((9999;");
        faulty(3, "moor posts ^7;moor posts 9;");
        faulty(3, "moor posts ^0");
        faulty(2, "^road 9 9;");
    }

    /** "of one TOKEN the least kind". */
    private static void theLeastKind() {
        // No token and it could not stand there either; four digits where no number may stand, or none so great.
        faulty(1, "^?");
        faulty(1, TWO + "fog 1 ^1000;");
        faulty(1, "moor posts ^7777;");
        // Out of bounds, but no number may stand there at all.
        faulty(2, "moor ^7;");
        faulty(2, TWO + "fog 1 ^10;");
        faulty(2, TWO + "road 0 1 ^9;");
        // The seventh, but it may not stand there at all.
        faulty(2, TWO + "turns:((((((^[1");
        faulty(2, TWO + "turns:((((((^not 1");
        faulty(2, TWO + "turns:((((((1^(1");
        faulty(2, TWO + "turns:((((((1^if");
        faulty(2, TWO + "sticks:[[[[[[1=^[1");
        faulty(2, TWO + "sticks:[[[[[[1=1^not");
        faulty(2, TWO + "sticks:[[[[[[1+^not");
    }

    /** "the end: the text's length": behind each token of a text that is cut there, blanks behind it too. */
    private static void theEnd() {
        String[] tokens = {"moor", "posts", "2", ";", "road", "0", "1", ";", "arm", "0", "0", ";", "home", "1", ";", "walker", "1", ";",
            "fog", "1", ";", "turns", ":", "if", "1", "=", "1", "and", "[", "not", "1", "<", "2", "or", "2", ">", "1", "]", "then", "(",
            "1", "+", "2", "-", "post", "*", "arm", ")", "else", "roads", "end", ";", "sticks", ":", "fog", "=", "1", ";"};
        StringBuilder text = new StringBuilder();
        int whole = 0;
        faulty(2, "^");
        faulty(2, "  \n ^");
        for (String token : tokens) {
            text.append(token);
            if (token.equals(";")) {
                whole++;
                lines(whole, text.toString());
                lines(whole, text + "\n  ");
            } else {
                faulty(2, text + "^");
                faulty(2, text + " \n ^");
            }
            text.append(' ');
        }
    }

    /** "moor must be told first, and once". */
    private static void moorFirstAndOnce() {
        for (String line : new String[] {"road 0 0;", "arm 0 0;", "home 0;", "walker 0;", "fog 0;", "turns:1;", "sticks:1=1;", ";", "1"}) {
            faulty(2, "^" + line + "moor posts 1;");
        }
        faulty(2, "moor posts 1;^moor posts 1;");
        faulty(2, "moor posts 1;fog 1;^moor posts 1;");
        faulty(2, "moor ^moor posts 1;");
    }

    // ---- feed, moor, fault

    private static SignTurn fullTape() {
        SignTurn x = Check.of("moor posts 3;fog 1;");
        Check.feed(x, "moor posts 1;" + " ".repeat(881) + "fog 7;");
        return x;
    }

    /** "how many it has. -5: it would have more than 900". */
    private static void feedFillsTheTape() {
        SignTurn x = new SignTurn();
        for (int i = 1; i <= 45; i++) {
            due("feed", 20 * i, x.feed(0x6d6f6f72, 0x20706f73, 0x74732033, 0x3b202020, 0x20202020));
            due("bytes", 20 * i, x.count(8));
        }
        Twin.refused("feed to a full tape", -5, TextEdgeTest::fullTape, y -> y.feed(1, 2, 3, 4, 5));
        Twin.refused("feed twice to it", -5, TextEdgeTest::fullTape, y -> y.feed(0, 0, 0, 0, 0) + y.feed(0, 0, 0, 0, 0) + 5);
        SignTurn z = fullTape();
        due("moor of all", 2, z.moor(900));
        due("feed behind it", 20, z.feed(0, 0, 0, 0, 0));
    }

    /** "Twenty bytes come behind those on THE TAPE, the highest of each int first", bytes above 127 too. */
    private static void feedKeepsBytes() {
        for (int i = 0; i < 20; i++) {
            byte[] bytes = "                    ".getBytes();
            bytes[i] = (byte) 0x80;
            int[] five = new int[5];
            for (int k = 0; k < 20; k++) {
                five[k / 4] = five[k / 4] << 8 | bytes[k] & 255;
            }
            SignTurn x = new SignTurn();
            x.feed(five[0], five[1], five[2], five[3], five[4]);
            due("byte " + i + " is none that a token begins with", -31, x.moor(20));
            due("it is byte " + i, i, x.fault(1));
            SignTurn y = new SignTurn();
            y.feed(0x20202020, 0x20202020, 0x20202020, 0x20202020, 0x20202020);
            y.feed(five[0], five[1], five[2], five[3], five[4]);
            y.moor(40);
            due("behind those there are", 20 + i, y.fault(1));
        }
    }

    /** "-3: n is below 0 or above what there is (THE TAPE stays)". */
    private static void moorOfTooMany() {
        for (int n : new int[] {-1, 21, 22, 900, 901, Twin.MIN, Twin.MAX}) {
            Twin.refused("moor of " + n + ", 20 on the tape", -3, x -> x.moor(n));
        }
        for (int n : new int[] {-1, 1, 20, Twin.MAX}) {
            Twin.refused("moor of " + n + ", none on the tape", -3, SignTurn::new, x -> x.moor(n));
        }
        for (int n : new int[] {-1, 901, Twin.MAX}) {
            Twin.refused("moor of " + n + ", 900 on the tape", -3, TextEdgeTest::fullTape, x -> x.moor(n));
        }
        SignTurn y = Twin.rich();
        due("all that there is", 2, y.moor(20));
        due("moor of 0", -32, new SignTurn().moor(0));
    }

    /** "The first n bytes of THE TAPE (which is empty then)": what is behind them is gone, with a fault too. */
    private static void moorEmptiesTheTape() {
        SignTurn x = new SignTurn();
        Check.feed(x, "moor posts 3;fog 4;fog 5;fog 6;");
        due("moor of some", 2, x.moor(19));
        due("its fog", 4, x.count(5));
        due("the tape", 0, x.count(8));
        due("no more there", -3, x.moor(1));
        due("moor of none", -32, x.moor(0));
        Check.feed(x, "moor posts 3;fog 4;fog 5;fog 6;");
        due("moor with a fault", -32, x.moor(18));
        due("the tape behind a fault", 0, x.count(8));
        Check.feed(x, "moor posts 2;");
        due("bytes come first then", 1, x.moor(13));
        Check.feed(x, "moor posts 4;");
        due("moor of 0 with some there", -32, x.moor(0));
        due("they are gone, too", 0, x.count(8));
    }

    /** "STEPS are 0, nothing can be UNDONE". */
    private static void moorBeginsAnew() {
        SignTurn x = Twin.rich();
        due("steps ahead", 1, x.count(6));
        due("calls ahead", 3, x.count(7));
        due("moor", 2, x.moor(20));
        due("steps", 0, x.count(6));
        due("calls", 0, x.count(7));
        due("undo", -3, x.undo(1));
        due("trays stay", 300, x.write(0, 2, 300));
        due("images stay", 0, x.restore(0));
        due("posts of the image", 4, x.count(0));
    }

    /** What a text doesn't tell is as "Terms" tells it, not as an earlier text did. */
    private static void moorLeavesNothing() {
        SignTurn x = Check.of("moor posts 6;road 0 0;road 0 0;road 0 0;arm 0 2;road 1 1;road 1 1;arm 1 1;road 5 0;home 5;home 2;"
            + "walker 3;fog 7;turns:0;sticks:fog=0;");
        due("a text with a fault leaves nothing either", -32, Check.tell(x, "moor posts 6;road 1 1;arm 1 0;home 0;walker 5;"
            + "fog 9;turns:2;sticks:1=1;x"));
        due("few lines", 3, Check.tell(x, "moor posts 6;road 0 1;road 0 2;"));
        int[] counts = {6, 2, 0, 0, 0, 0, 0, 0, 0, 3};
        for (int what = 0; what < counts.length; what++) {
            due("count " + what, counts[what], x.count(what));
        }
        due("no third road", -2, x.post(0, 12));
        due("no law that keeps waiting", 1, x.by(0, 0));
        due("no law of turns", 1, x.by(0, 1));
        for (int p = 1; p < 6; p++) {
            due("no roads of " + p, 0, x.post(p, 1));
            due("nor a step from there", -5, x.by(p, 0));
        }
        due("one line", 1, Check.tell(x, "moor posts 6;"));
        due("no roads", 0, x.count(1));
        due("no step from the first", -5, x.by(0, 0));
        due("no step", -12, x.step());
        for (int i = 0; i < 5; i++) {
            due("long laws one after another", 2, Check.tell(x, "moor posts 1;turns:" + "1+".repeat(430) + "1;"));
        }
    }

    /** "all stays with a FAULT", "-30 less the FAULT": but for the tape and fault(). */
    private static void faultLeavesAll() {
        String[] texts = {"?", "", "moor posts 2;home 1;bog", "moor posts 7;", "moor posts 1;turns:(((((((",
            "moor posts 6;road 0 0;fog 9;walker 5;fog 10;"};
        int[] kinds = {1, 2, 2, 3, 4, 3};
        for (int i = 0; i < texts.length; i++) {
            SignTurn x = Twin.rich();
            SignTurn twin = Twin.rich();
            x.moor(0);
            twin.moor(0);
            due("moor " + texts[i], -30 - kinds[i], Check.tell(x, texts[i]));
            due("fault", kinds[i], x.fault(0));
            // The latest fault of both is one of a text of no bytes then.
            due("the same fault of both", x.moor(0), twin.moor(0));
            Twin.same("moor " + texts[i], twin, x);
        }
    }

    /** "Of the latest moor() that was read, what 0: its FAULT (0), 1: its place (NONE). NONE for others." */
    private static void faultIsOfTheLatest() {
        SignTurn x = new SignTurn();
        Check.tell(x, "moor posts 1;fog 10;");
        due("fault", 3, x.fault(0));
        due("place", 17, x.fault(1));
        due("one that isn't read", -3, x.moor(1));
        due("fault stays", 3, x.fault(0));
        due("place stays", 17, x.fault(1));
        x.step();
        x.image(0);
        x.restore(0);
        due("fault still", 3, x.fault(0));
        Check.tell(x, "moor posts 1;?");
        due("a later fault", 1, x.fault(0));
        due("its place", 13, x.fault(1));
        Check.retell(x, "moor posts 1;");
        due("none", 0, x.fault(0));
        due("no place", -1, x.fault(1));
        for (int what : new int[] {-1, 2, 3, 10, Twin.MIN, Twin.MAX}) {
            Twin.refused("fault of " + what, -1, y -> y.fault(what));
        }
    }
}
