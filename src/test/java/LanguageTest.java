import java.io.IOException;
import java.lang.reflect.Constructor;
import java.lang.reflect.Field;
import java.lang.reflect.Method;
import java.lang.reflect.Modifier;
import java.nio.file.Files;
import java.nio.file.Path;
import java.util.ArrayList;
import java.util.List;
import java.util.Set;
import java.util.TreeSet;
import java.util.regex.Matcher;
import java.util.regex.Pattern;

/** The public face, and the rules of LANGUAGE.md that can be seen without running. Starts in the project's root. */
final class LanguageTest {
    private static final String[] FACE = {"feed int int int int int int", "moor int int", "fault int int", "post int int int",
        "by int int int", "step int", "steps int int", "turn int int int", "setsOut int int", "fog int int", "undo int int",
        "judge int int int", "perform int int", "year int int int", "at int long", "arms int long", "visits long int long",
        "round int int", "first int int", "rests int", "homing int int", "hands int int int", "fills int int int",
        "filling int int", "footprints int int", "shown int int int", "look int int", "fogs int int", "ahead int int",
        "from int", "again int", "trees int int", "chance long int int int", "mean long int", "score int int int int",
        "forces int int", "best int int", "numbers int int int int", "write long int int long", "lists int int",
        "image int int", "restore int int", "count int int"};
    private static final String[] BANNED = {"throw", "throws", "try", "catch", "finally", "synchronized", "assert", "Object",
        "System\\.(?!arraycopy)", "->", "::", "hashCode", "toString", "volatile", "native", "transient", "Thread", "Exact\\(",
        "Random", "protected", "@", "import (?!java\\.util\\.Arrays;)"};

    private LanguageTest() {
    }

    public static void main(String[] args) throws IOException {
        face();
        String source = Files.readString(Path.of("src/main/java/SignTurn.java"));
        words(source);
        sizes(source);
        names();
        Check.end();
    }

    private static void rule(String what, boolean holds) {
        Check.due(what, 1, holds ? 1 : 0);
    }

    private static void face() {
        Set<String> want = new TreeSet<>(List.of(FACE));
        Set<String> got = new TreeSet<>();
        for (Method method : SignTurn.class.getDeclaredMethods()) {
            int is = method.getModifiers();
            if (Modifier.isPublic(is)) {
                StringBuilder one = new StringBuilder(method.getName() + " " + method.getReturnType());
                for (Class<?> type : method.getParameterTypes()) {
                    one.append(' ').append(type);
                }
                got.add(one.toString());
                rule(method.getName() + " is of the object", !Modifier.isStatic(is));
            } else if (!method.isSynthetic()) {
                rule("private " + method.getName(), Modifier.isPrivate(is));
            }
        }
        rule("the face is " + got, want.equals(got));
        rule("the class is public and final", (SignTurn.class.getModifiers() & (Modifier.PUBLIC | Modifier.FINAL))
            == (Modifier.PUBLIC | Modifier.FINAL) && SignTurn.class.getPackageName().isEmpty());
        Constructor<?>[] made = SignTurn.class.getConstructors();
        rule("one public constructor", made.length == 1 && made[0].getParameterCount() == 0
            && SignTurn.class.getDeclaredConstructors().length == 1);
        for (Field field : SignTurn.class.getDeclaredFields()) {
            boolean constant = field.getName().equals("NONE");
            rule("field " + field.getName(), Modifier.isPrivate(field.getModifiers()) != constant);
        }
        Check.due("NONE", -1, SignTurn.NONE);
    }

    private static void words(String source) {
        String code = source.replaceAll("(?s)/\\*.*?\\*/", "").replaceAll("//[^\n]*", "").replaceAll("\"[^\"\n]*\"", "\"\"");
        for (String banned : BANNED) {
            String word = Character.isLetter(banned.charAt(0)) ? "\\b" + banned : banned;
            word = Character.isLetter(banned.charAt(banned.length() - 1)) ? word + "\\b" : word;
            Matcher found = Pattern.compile(word).matcher(code);
            rule("no " + banned, !found.find());
        }
        rule("no joining of texts", !code.contains("\" +") && !code.contains("+ \""));
        for (int i = 0; i < source.length(); i++) {
            if (source.charAt(i) > 126) {
                rule("plain signs alone", false);
            }
        }
    }

    /** Methods of some sixty lines, twelve classes, twenty fields, seven parameters. */
    private static void sizes(String source) {
        String[] lines = source.split("\n");
        int start = -1;
        String end = "";
        for (int i = 0; i < lines.length; i++) {
            if (start < 0 && lines[i].matches("(    |        )[a-zA-Z].*\\) \\{")) {
                start = i;
                end = lines[i].replaceAll("\\S.*", "") + "}";
            } else if (start >= 0 && lines[i].equals(end)) {
                rule("a method of some sixty lines: " + lines[start].trim(), i - start < 60);
                start = -1;
            }
        }
        Class<?>[] inside = SignTurn.class.getDeclaredClasses();
        rule("some twelve classes", inside.length + 1 <= 12);
        List<Class<?>> all = new ArrayList<>(List.of(inside));
        all.add(SignTurn.class);
        for (Class<?> one : all) {
            int fields = 0;
            for (Field field : one.getDeclaredFields()) {
                boolean fixed = Modifier.isStatic(field.getModifiers());
                rule("static and final: " + field, !fixed || Modifier.isFinal(field.getModifiers()));
                fields += fixed ? 0 : 1;
            }
            rule("some twenty fields: " + one, fields <= 20);
            rule("static inside: " + one, one == SignTurn.class || Modifier.isStatic(one.getModifiers()));
            for (Method method : one.getDeclaredMethods()) {
                rule("seven parameters: " + method, method.getParameterCount() <= 7);
            }
        }
    }

    private static void names() {
        Set<String> face = new TreeSet<>();
        for (String one : FACE) {
            face.add(one.split(" ")[0]);
        }
        for (Class<?> one : SignTurn.class.getDeclaredClasses()) {
            for (Method method : one.getDeclaredMethods()) {
                rule("a name of its own: " + method, !face.contains(method.getName()));
            }
        }
        for (Method method : SignTurn.class.getDeclaredMethods()) {
            rule("a name of its own: " + method, !Modifier.isPrivate(method.getModifiers()) || !face.contains(method.getName()));
        }
    }
}
