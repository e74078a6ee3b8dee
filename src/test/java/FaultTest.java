import java.util.ArrayDeque;
import java.util.ArrayList;
import java.util.Deque;
import java.util.List;
import java.util.Random;
import java.util.regex.Matcher;
import java.util.regex.Pattern;

/** Texts with faults. In those by hand a ^ (which is taken out) stands ahead of the token that has it. */
final class FaultTest {
    private static final String HEAD = "moor posts 2;road 0 1;";

    private FaultTest() {
    }

    public static void main(String[] args) {
        noTokens();
        cantStand();
        bounds();
        depths();
        firstAlong();
        goodTexts();
        cutTexts();
        byChance();
        Check.end();
    }

    private static void faulty(int kind, String marked) {
        int place = marked.indexOf('^');
        String text = marked.substring(0, place) + marked.substring(place + 1);
        SignTurn x = Check.of("moor posts 3;fog 5;");
        x.fog(6);
        Check.due("moor " + marked, -30 - kind, Check.tell(x, text));
        Check.due("fault of " + marked, kind, x.fault(0));
        Check.due("place of " + marked, place, x.fault(1));
        Check.due("posts stay by " + marked, 3, x.count(0));
        Check.due("fog stays by " + marked, 6, x.count(5));
        Check.due("undoing stays by " + marked, 1, x.count(7));
        Check.due("lines stay by " + marked, 2, x.count(9));
        Check.due("the tape is empty by " + marked, 0, x.count(8));
    }

    private static void good(int lines, String text) {
        SignTurn x = new SignTurn();
        Check.due("moor " + text, lines, Check.tell(x, text));
        Check.due("fault of " + text, 0, x.fault(0));
        Check.due("place of " + text, -1, x.fault(1));
    }

    private static void noTokens() {
        faulty(1, "^Moor posts 2;");
        faulty(1, "^1234");
        faulty(1, "moor posts ^0001;");
        faulty(1, "moor posts 2^, ;");
        faulty(1, HEAD + "fog ^12345678901234567890;");
        faulty(1, HEAD + "^#");
        faulty(1, HEAD + "turns : 1 ^/ 2;");
        faulty(1, HEAD + "^\t");
        faulty(1, HEAD + "^\r\n");
        faulty(1, HEAD + "^\0");
        faulty(1, HEAD + "^" + (char) 233);
        faulty(1, HEAD + "^" + (char) 255);
        faulty(1, HEAD + "home^_");
        faulty(1, HEAD + "sticks : 1 ^! = 1;");
        faulty(1, HEAD + "turns : ((((((^1000))))));");
        // Letters behind digits are a word of their own.
        faulty(2, HEAD + "fog 1^a;");
        faulty(2, HEAD + "fog 3^b4;");
    }

    private static void cantStand() {
        faulty(2, "^");
        faulty(2, "   ^");
        faulty(2, "^;");
        faulty(2, "^2");
        faulty(2, "^posts 2;");
        faulty(2, "^road 0 0;");
        faulty(2, "moor ^2;");
        faulty(2, "moor posts ^;");
        faulty(2, "moor posts ^posts");
        faulty(2, "moor posts 2 ^3;");
        faulty(2, "moor posts 2^");
        faulty(2, "moor posts 2; ^;");
        faulty(2, HEAD + "^moor posts 2;");
        faulty(2, HEAD + "^posts 2;");
        faulty(2, HEAD + "^bog 1;");
        faulty(2, HEAD + "^roads 0 1;");
        faulty(2, HEAD + "^zoo 1;");
        faulty(2, HEAD + "^fogz 1;");
        faulty(2, HEAD + "^fuzz 1;");
        faulty(2, HEAD + "fog 1 ^a;");
        faulty(2, HEAD + "^homes 0;");
        faulty(2, HEAD + "^1");
        faulty(2, HEAD + "road 0 1 ^1;");
        faulty(2, HEAD + "road ^x 1;");
        faulty(2, HEAD + "arm 0 ^;");
        faulty(2, HEAD + "home ^;");
        faulty(2, HEAD + "home 0 ^home 1;");
        faulty(2, HEAD + "walker ^walker;");
        faulty(2, HEAD + "fog ^-1;");
        faulty(2, HEAD + "fog 1^");
        faulty(2, HEAD + "fog 1  ^");
        faulty(2, HEAD + "turns ^1;");
        faulty(2, HEAD + "turns :^;");
        faulty(2, HEAD + "turns : ^- 1;");
        faulty(2, HEAD + "turns : 1 + ^;");
        faulty(2, HEAD + "turns : 1 ^1;");
        faulty(2, HEAD + "turns : 1 ^= 1;");
        faulty(2, HEAD + "turns : ^[1];");
        faulty(2, HEAD + "turns : ^not 1 = 1;");
        faulty(2, HEAD + "turns : (^);");
        faulty(2, HEAD + "turns : (1^];");
        faulty(2, HEAD + "turns : ^posts;");
        faulty(2, HEAD + "turns : ^walker;");
        faulty(2, HEAD + "turns : if 1 ^then 2 else 3 end;");
        faulty(2, HEAD + "turns : if 1 = 1 ^2 else 3 end;");
        faulty(2, HEAD + "turns : if 1 = 1 then 2 ^end;");
        faulty(2, HEAD + "turns : if 1 = 1 then 2 else 3^;");
        faulty(2, HEAD + "turns : if 1 = 1 then 2 ^= 2 else 3 end;");
        faulty(2, HEAD + "turns : 1 * ^* 1;");
        faulty(2, HEAD + "sticks : 1^;");
        faulty(2, HEAD + "sticks : 1 = ^;");
        faulty(2, HEAD + "sticks : 1 = 1 ^= 1;");
        faulty(2, HEAD + "sticks : (1 ^= 1);");
        faulty(2, HEAD + "sticks : [1 = 1^);");
        faulty(2, HEAD + "sticks : [1^] = 1;");
        faulty(2, HEAD + "sticks : 1 < ^> 2;");
        faulty(2, HEAD + "sticks : 1 = 1 and ^;");
        faulty(2, HEAD + "sticks : 1 = 1 and ^or 1 = 1;");
        faulty(2, HEAD + "sticks : not ^;");
        faulty(2, HEAD + "sticks : 1 = 1 ^not 1 = 1;");
        faulty(2, HEAD + "sticks : ^and;");
        faulty(2, HEAD + "turns : 1^");
        faulty(2, HEAD + "turns : 1 +^");
        faulty(2, HEAD + "turns : (1^");
    }

    private static void bounds() {
        faulty(3, "moor posts ^0;");
        faulty(3, "moor posts ^7;");
        faulty(3, "moor posts ^999;");
        faulty(3, HEAD + "road ^2 0;");
        faulty(3, HEAD + "road 0 ^2;");
        faulty(3, HEAD + "road 0 1;road 0 1;road ^0 1;");
        faulty(3, HEAD + "road 0 1;road 0 1;road ^0;");
        faulty(3, HEAD + "arm ^2 0;");
        faulty(3, HEAD + "arm 0 ^1;");
        faulty(3, HEAD + "arm 1 ^0;");
        // A road is told for an arm by the lines ahead of it.
        faulty(3, "moor posts 2;arm 0 ^0;road 0 1;");
        faulty(3, HEAD + "home ^2;");
        faulty(3, HEAD + "walker ^2;");
        faulty(3, HEAD + "walker ^006;");
        faulty(3, HEAD + "fog ^10;");
        // Ahead of what it lacks behind it.
        faulty(3, "moor posts ^8");
        faulty(3, HEAD + "fog ^99 99");
    }

    private static void depths() {
        faulty(4, HEAD + "turns : ((((((^(1)))))));");
        faulty(4, HEAD + "sticks : not not not not not not ^not 1 = 1;");
        faulty(4, HEAD + "sticks : [[[[[[^[1 = 1]]]]]]];");
        faulty(4, HEAD + "sticks : not [ ( if not [ ^( 1 ) = 1 ] then 1 else 2 end ) = 1 ];");
        faulty(4, HEAD + "turns : if (((((^(1)))))) = 1 then 1 else 2 end;");
        faulty(4, HEAD + "turns : if 1 = 1 then (((((^(1)))))) else 2 end;");
        faulty(4, HEAD + "turns : if 1 = 1 then 1 else (((((^if 1 = 1 then 1 else 1 end))))) end;");
        faulty(4, HEAD + "sticks : not 1 = (((((^(1)))))) + 1;");
        // A seventh that can't stand there at all is of the lesser kind.
        faulty(2, HEAD + "turns : ((((((^[1];");
        faulty(2, HEAD + "turns : ((((((^not 1;");
        faulty(2, HEAD + "turns : ((((((1 ^(1;");
        faulty(2, HEAD + "sticks : not not not not not not 1 = ^not;");
    }

    private static void firstAlong() {
        faulty(3, HEAD + "fog ^10; ? ;");
        faulty(2, HEAD + "fog 1 ^fog 10;");
        faulty(1, HEAD + "fog ^? 10;");
        faulty(4, HEAD + "turns : ((((((^(9999;");
    }

    private static void goodTexts() {
        good(1, "moor posts 1;");
        good(1, "\n moor\nposts\n\n1 \n;\n ");
        good(2, "moor posts 002;fog 9;");
        good(9, "moor posts 6;road 5 5;road 5 5;road 5 5;arm 5 2;home 5;walker 5;turns:1;sticks:1=1;");
        good(3, "moor posts 1;turns:if 1=1and 2>1then(1)else 2end+1-post*arm;sticks:not[1=1]or roads<fog;");
        good(2, "moor posts 1;turns:((((((1))))))+((((((1))))));");
        good(2, "moor posts 1;sticks:not[not[(1+if 1=1 then 1 else 2 end)=1]];");
        good(2, "moor posts 1;turns:" + "1+".repeat(439) + "10;");
    }

    /** What lies on the tape behind the text doesn't belong to its last token. */
    private static void cutTexts() {
        SignTurn x = new SignTurn();
        Check.feed(x, "moor posts 12345;");
        Check.due("cut within digits", -32, x.moor(12));
        Check.due("the end then", 12, x.fault(1));
        Check.feed(x, "moor posts 1;fogs");
        Check.due("cut within a word", -32, x.moor(16));
        Check.due("the end behind the word", 16, x.fault(1));
        Check.feed(x, "moor posts 1;?");
        Check.due("cut ahead of a fault", 1, x.moor(13));
    }

    // ---- texts by chance against a parser of another kind, by a row of what is still to come

    private static final Pattern TOKEN = Pattern.compile("[a-z]+|[0-9]+|[;:+*()\\[\\]=<>-]");
    private static final String[] PIECES = {"moor posts 3;", "moor", "posts", "road", "road 0 1;", "road 1 2;", "arm", "arm 0 0;",
        "home", "home 2;", "walker", "walker 1;", "fog", "fog 4;", "turns", "turns:", "sticks", "sticks:", ":", ";", ";", ";", "0", "1",
        "2", "3", "12", "999", "1000", "+", "-", "*", "(", ")", "((((", "))))", "[", "]", "[[[", "]]]", "if", "then", "else", "end",
        "post", "arm", "roads", "fog", "not", "not not not", "and", "or", "=", "<", ">", "1=1", "1 + 1", "if 1=1 then", "else 2 end",
        "?", "A", "x"};

    private static void byChance() {
        for (int seed = 0; seed < 60000; seed++) {
            Random random = new Random(seed);
            StringBuilder text = new StringBuilder(random.nextInt(10) == 0 ? "" : "moor posts 3;");
            if (random.nextInt(3) == 0) {
                text.append(random.nextBoolean() ? "turns:" : "sticks:");
            }
            int n = random.nextInt(14);
            for (int i = 0; i < n; i++) {
                text.append(PIECES[random.nextInt(PIECES.length)]);
                text.append(random.nextInt(3) == 0 ? "" : random.nextBoolean() ? " " : "\n");
            }
            against(text.toString());
        }
        for (int seed = 0; seed < 3000; seed++) {
            Random random = new Random(seed);
            String text = Oracle.random(random).text(random);
            int at = random.nextInt(text.length());
            String changed = random.nextBoolean() ? text.substring(0, at) + text.substring(at + 1)
                : text.substring(0, at) + PIECES[random.nextInt(PIECES.length)] + text.substring(at);
            if (changed.length() <= 900) {
                against(changed);
            }
        }
    }

    private static void against(String text) {
        int[] want = plain(text);
        SignTurn x = new SignTurn();
        int got = Check.tell(x, text);
        Check.due("moor " + text, want[0] == 0 ? want[1] : -30 - want[0], got);
        Check.due("fault of " + text, want[0], x.fault(0));
        Check.due("place of " + text, want[0] == 0 ? -1 : want[1], x.fault(1));
    }

    /** Fault and place, or 0 and the lines. */
    static int[] plain(String text) {
        Deque<String> due = new ArrayDeque<>();
        push(due, "moor posts #count ; LINES");
        List<Integer> numbers = new ArrayList<>();
        int[] roads = new int[6];
        int posts = 0;
        int depth = 0;
        int lines = 0;
        int from = 0;
        while (true) {
            while (from < text.length() && (text.charAt(from) == ' ' || text.charAt(from) == '\n')) {
                from++;
            }
            Matcher matcher = TOKEN.matcher(text);
            boolean ends = from >= text.length();
            if (!ends && (!matcher.find(from) || matcher.start() != from)) {
                return new int[] {1, from};
            }
            String token = ends ? "" : matcher.group();
            boolean isNumber = !ends && Character.isDigit(token.charAt(0));
            if (isNumber && token.length() > 3) {
                return new int[] {1, from};
            }
            // What is to come is told more closely by this token, till it stands first itself or can't.
            while (true) {
                String first = due.isEmpty() ? "" : due.peek();
                if (first.equals("UP")) {
                    due.pop();
                    depth--;
                    continue;
                }
                if (first.isEmpty() || !Character.isUpperCase(first.charAt(0))) {
                    break;
                }
                due.pop();
                String more = expand(first, token, isNumber);
                if (more == null) {
                    return new int[] {2, ends ? text.length() : from};
                }
                push(due, more);
            }
            if (due.isEmpty()) {
                return ends ? new int[] {0, lines} : new int[] {2, from};
            }
            String first = due.pop();
            if (ends || (first.startsWith("#") ? !isNumber : !first.equals(token))) {
                return new int[] {2, ends ? text.length() : from};
            }
            if (isNumber) {
                int n = Integer.parseInt(token);
                numbers.add(n);
                int before = numbers.size() > 1 ? numbers.get(numbers.size() - 2) : 0;
                boolean in = true;
                switch (first) {
                    case "#count":
                        in = n >= 1 && n <= 6;
                        posts = n;
                        break;
                    case "#post":
                        in = n < posts;
                        break;
                    case "#start":
                        in = n < posts && roads[n] < 3;
                        break;
                    case "#to":
                        in = n < posts;
                        roads[before]++;
                        break;
                    case "#road":
                        in = n < roads[before];
                        break;
                    case "#fog":
                        in = n < 10;
                        break;
                    default:
                        break;
                }
                if (!in) {
                    return new int[] {3, from};
                }
            }
            if (token.equals(";")) {
                lines++;
            }
            boolean within = token.equals("not") || token.equals("[") || token.equals("(") || token.equals("if");
            if (within && ++depth > 6) {
                return new int[] {4, from};
            }
            from = matcher.end();
        }
    }

    private static void push(Deque<String> due, String row) {
        String[] parts = row.isEmpty() ? new String[0] : row.split(" ");
        for (int i = parts.length - 1; i >= 0; i--) {
            due.push(parts[i]);
        }
    }

    private static String expand(String symbol, String token, boolean isNumber) {
        switch (symbol) {
            case "LINES":
                return token.isEmpty() ? "" : line(token);
            case "SUM":
                return "TERM SUMS";
            case "SUMS":
                return token.equals("+") || token.equals("-") ? token + " TERM SUMS" : "";
            case "TERM":
                return "ATOM TERMS";
            case "TERMS":
                return token.equals("*") ? "* ATOM TERMS" : "";
            case "ATOM":
                return isNumber ? "#any" : atom(token);
            case "TRUTH":
                return "BOTH TRUTHS";
            case "TRUTHS":
                return token.equals("or") ? "or BOTH TRUTHS" : "";
            case "BOTH":
                return "UNIT BOTHS";
            case "BOTHS":
                return token.equals("and") ? "and UNIT BOTHS" : "";
            case "UNIT":
                return token.equals("not") ? "not UNIT UP" : token.equals("[") ? "[ TRUTH ] UP" : "SUM COMPARES SUM";
            case "COMPARES":
                return token.equals("=") || token.equals("<") || token.equals(">") ? token : null;
            default:
                return null;
        }
    }

    private static String atom(String token) {
        switch (token) {
            case "post":
            case "arm":
            case "roads":
            case "fog":
                return token;
            case "(":
                return "( SUM ) UP";
            case "if":
                return "if TRUTH then SUM else SUM end UP";
            default:
                return null;
        }
    }

    private static String line(String token) {
        switch (token) {
            case "road":
                return "road #start #to ; LINES";
            case "arm":
                return "arm #post #road ; LINES";
            case "home":
            case "walker":
                return token + " #post ; LINES";
            case "fog":
                return "fog #fog ; LINES";
            case "turns":
                return "turns : SUM ; LINES";
            case "sticks":
                return "sticks : TRUTH ; LINES";
            default:
                return null;
        }
    }
}
