import java.io.IOException;
import java.nio.file.Files;
import java.nio.file.Path;
import java.util.List;
import java.util.Set;
import java.util.TreeSet;
import java.util.regex.Matcher;
import java.util.regex.Pattern;

/** What ../shared/LANGUAGE.md asks of the program's text. Started in the project's folder. */
public final class LanguageTest {
    private static final List<String> NEVER = List.of("throw", "throws", "try", "catch", "finally", "synchronized", "assert",
        "import", "package", "protected", "interface", "instanceof", "var", "float", "double", "volatile", "transient",
        "native", "Exception", "Error", "Object", "System", "Thread", "equals", "hashCode", "toString", "yield", "goto");

    public static void main(String[] args) throws IOException {
        Check check = new Check("language");
        String text = Files.readString(Path.of("src/main/java/HuntedScent.java"));
        for (int i = 0; i < text.length(); i++) {
            if (text.charAt(i) > 127) {
                check.holds("sign " + i + " is plain", false);
            }
        }
        String code = text.replaceAll("(?s)/\\*.*?\\*/", " ").replaceAll("//[^\n]*", " ");
        words(check, code.replaceAll("\"[^\"\n]*\"", "text").replaceAll("'.'", "sign"));
        methods(check, code);
        check.done();
    }

    private static void words(Check check, String code) {
        for (String word : NEVER) {
            check.holds("no " + word, !Pattern.compile("\\b" + word + "\\b").matcher(code).find());
        }
        check.holds("no lambda", !code.contains("->"));
        check.holds("no method reference", !code.contains("::"));
        check.holds("no annotation", !code.contains("@"));
        Set<String> called = new TreeSet<>();
        Matcher m = Pattern.compile("\\b(Integer|Math|Long|Arrays|String)\\.(\\w+)").matcher(code);
        while (m.find()) {
            called.add(m.group());
        }
        Set<String> listed = Set.of("Integer.bitCount", "Math.min", "Math.max", "Math.floorMod");
        check.holds("of the library " + called, listed.containsAll(called));
        check.due("classes with names of their own", count(code, "\\bclass "), 12);
        check.due("classes inside that are private, static and final", count(code, "private static final class "), 11);
        check.due("statics that are no constants", count(code, "\\bstatic (?!final)[\\w\\[\\]]+ \\w+ ?[=;]"), 0);
    }

    private static int count(String code, String what) {
        int found = 0;
        for (Matcher m = Pattern.compile(what).matcher(code); m.find();) {
            found++;
        }
        return found;
    }

    private static void methods(Check check, String code) {
        Matcher m = Pattern.compile("\n( {4}| {8})(private|public) [^=;{}]*\\([^)]*\\) \\{").matcher(code);
        int found = 0;
        while (m.find()) {
            int end = code.indexOf("\n" + m.group(1) + "}", m.start());
            String body = code.substring(m.start() + 1, end);
            check.holds("not short: " + body.substring(0, body.indexOf('\n')), body.split("\n").length <= 60);
            found++;
        }
        check.holds("methods were found", found > 100);
    }
}
