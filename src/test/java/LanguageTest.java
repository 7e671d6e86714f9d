import java.lang.reflect.Field;
import java.lang.reflect.Method;
import java.lang.reflect.Modifier;
import java.nio.file.Files;
import java.nio.file.Path;
import java.util.HashSet;
import java.util.List;
import java.util.Set;
import java.util.regex.Matcher;
import java.util.regex.Pattern;

/** The rules of LANGUAGE.md that can be seen in the source's words; to be run in the project's folder. */
public final class LanguageTest {
    private static final Checker CHECKER = new Checker("LanguageTest");
    private static final List<String> FORBIDDEN = List.of(
            "\\bthrows?\\b", "\\btry\\b", "\\bcatch\\b", "\\bsynchronized\\b", "\\bassert\\b", "\\bimport\\b",
            "\\bpackage\\b", "->", "::", "Exact\\s*\\(", "\\bprotected\\b", "\\bvolatile\\b", "\\bvar\\b",
            "static\\s*\\{", "\\bThread\\b", "\\bRandom\\b", "nanoTime", "currentTimeMillis", "\\bhashCode\\b",
            "\\btoString\\b", "\\bequals\\b", "\"\\s*\\+", "\\+\\s*\"");

    public static void main(String[] args) throws Exception {
        Path source = Path.of(args.length > 0 ? args[0] : "src/main/java/FrameDeltas.java");
        String text = Files.readString(source);
        CHECKER.holds("plain signs alone", text.chars().allMatch(c -> c < 127));
        String code = text.replaceAll("(?s)/\\*.*?\\*/", "").replaceAll("//[^\n]*", "");
        for (String word : FORBIDDEN) {
            Matcher found = Pattern.compile(word).matcher(code);
            CHECKER.holds("nowhere " + word, !found.find());
        }
        CHECKER.due("public classes", Pattern.compile("public final class").matcher(code).results().count(), 1);
        CHECKER.holds("at most twelve classes", FrameDeltas.class.getDeclaredClasses().length < 12);
        lengths(text.split("\n"));
        members();
        CHECKER.finish();
    }

    /** A method's body ends with a brace that stands as far to the right as its head begins. */
    private static void lengths(String[] lines) {
        Pattern head = Pattern.compile("^(    |        )(public|private) [^=;]*\\) \\{$");
        for (int i = 0; i < lines.length; i++) {
            Matcher matcher = head.matcher(lines[i]);
            if (matcher.find()) {
                int end = i;
                while (end < lines.length && !lines[end].equals(matcher.group(1) + "}")) {
                    end++;
                }
                CHECKER.holds("at most 60 lines: " + lines[i].trim(), end - i < 60);
                CHECKER.holds("at most seven parameters: " + lines[i].trim(), lines[i].split(",").length <= 7);
            }
        }
    }

    private static void members() {
        Set<String> names = new HashSet<>();
        for (Method method : FrameDeltas.class.getDeclaredMethods()) {
            if (Modifier.isPublic(method.getModifiers())) {
                names.add(method.getName());
            }
        }
        members(FrameDeltas.class, names);
        for (Class<?> inner : FrameDeltas.class.getDeclaredClasses()) {
            members(inner, names);
        }
    }

    private static void members(Class<?> owner, Set<String> names) {
        for (Method method : owner.getDeclaredMethods()) {
            CHECKER.holds("no private method with a public one's name: " + method,
                    Modifier.isPublic(method.getModifiers()) || !names.contains(method.getName()));
        }
        int fields = 0;
        for (Field field : owner.getDeclaredFields()) {
            boolean isStatic = Modifier.isStatic(field.getModifiers());
            CHECKER.holds("static fields are final: " + field, !isStatic || Modifier.isFinal(field.getModifiers()));
            fields += isStatic ? 0 : 1;
        }
        CHECKER.holds("at most twenty fields in " + owner, fields <= 20);
    }
}
