import java.io.IOException;
import java.nio.file.Files;
import java.nio.file.Path;
import java.util.ArrayList;
import java.util.List;
import java.util.Set;
import java.util.TreeSet;
import java.util.regex.Matcher;
import java.util.regex.Pattern;

/** Looks through the program's text for what LANGUAGE.md rules out. The argument is the program's file. */
public final class LanguageTest {
    private static final Check CHECK = new Check();
    private static final Set<String> PUBLIC = Set.of("feed", "end", "roll", "reword", "fault", "countings", "counting",
        "chosen", "wins", "says", "looks", "part", "telling", "mark", "open", "has", "judge", "rest", "soonest", "sway",
        "more", "shown", "hand", "untell", "later", "left", "sure", "image", "back", "about");

    public static void main(String[] args) throws IOException {
        String text = Files.readString(Path.of(args[0]));
        String code = withoutTexts(text);
        forbidden(code);
        library(text, code);
        face(code);
        sizes(code);
        CHECK.due("signs of the file are 1 to 126", text.chars().allMatch(c -> c == '\n' || c >= 32 && c < 127), true);
        CHECK.close("LanguageTest");
    }

    private static String withoutTexts(String text) {
        String code = text.replaceAll("(?s)/\\*.*?\\*/", "").replaceAll("//[^\n]*", "");
        return code.replaceAll("\"[^\"\n]*\"", "\"\"").replaceAll("'(\\\\.|[^'])'", "'c'");
    }

    private static void none(String code, String pattern) {
        Matcher m = Pattern.compile(pattern).matcher(code);
        boolean found = m.find();
        if (found) {
            System.out.println("found: " + m.group());
        }
        CHECK.due("none of " + pattern, found, false);
    }

    private static void forbidden(String code) {
        none(code, "\\b(throw|throws|try|catch|finally|synchronized|assert|volatile|transient|native|var)\\b");
        none(code, "->|::");
        none(code, "\\b(equals|hashCode|toString)\\s*\\(");
        none(code, "\"\"\\s*\\+|\\+\\s*\"\"");
        none(code, "\\bpackage\\b|\\bprotected\\b|\\binterface\\b|\\bextends\\b|\\bimplements\\b");
        none(code, "\\b(Object|Random|System|Thread|Runtime|Class|Iterator)\\b");
        none(code, "\\b(double|float)\\b");
        none(code, "static\\s*\\{");
        none(code, "while\\s*\\(\\s*true|for\\s*\\(\\s*;");
        none(code, "(?m)^\\s*(?:private |public )?static (?!final|class)[\\w\\[\\]]+ \\w+\\s*(?:=|;)");
        none(code, "\\b\\w+Exact\\b");
    }

    private static void library(String text, String code) {
        Matcher imports = Pattern.compile("import ([\\w.]+);").matcher(text);
        while (imports.find()) {
            CHECK.due("import of " + imports.group(1), imports.group(1).equals("java.util.Arrays"), true);
        }
        Set<String> allowed = Set.of("Arrays.copyOf", "Arrays.fill", "Math.min", "Math.max", "Integer.bitCount");
        Matcher calls = Pattern.compile("\\b([A-Z][a-z]\\w*\\.[a-z]\\w*)\\s*\\(").matcher(code);
        while (calls.find()) {
            CHECK.due("call of " + calls.group(1), allowed.contains(calls.group(1)), true);
        }
    }

    private static void face(String code) {
        Set<String> found = new TreeSet<>();
        Matcher m = Pattern.compile("(?m)^\\s*public (?:int|boolean) (\\w+)\\(").matcher(code);
        while (m.find()) {
            found.add(m.group(1));
        }
        CHECK.due("the face", found.equals(PUBLIC), true);
        Matcher p = Pattern.compile("(?m)^\\s*private (?:static )?[\\w\\[\\]]+ (\\w+)\\(").matcher(code);
        while (p.find()) {
            CHECK.due("a private method by the name of " + p.group(1), PUBLIC.contains(p.group(1)), false);
        }
        none(code, "(?m)^ {4}(?!private |public |\\}|  )\\S");
    }

    private static void sizes(String code) {
        int classes = 0;
        int start = -1;
        String head = "";
        String[] lines = code.split("\n");
        List<String> methods = new ArrayList<>();
        for (int i = 0; i < lines.length; i++) {
            if (lines[i].matches("\\s*(public|private static) final class .*")) {
                classes++;
            } else if (lines[i].matches("( {4}| {8})(public|private) [^=;]*\\{")) {
                start = i;
                head = lines[i];
                methods.add(head);
                int many = head.substring(head.indexOf('(')).split(",").length;
                CHECK.due("at most seven parameters:" + head, many <= 7, true);
            } else if (start >= 0 && lines[i].matches(" {" + (head.length() - head.stripLeading().length()) + "}\\}")) {
                CHECK.due("at most sixty lines:" + head, i - start < 60, true);
                start = -1;
            }
        }
        CHECK.due("at most twelve classes", classes <= 12, true);
        CHECK.due("methods were found", methods.size() > 60, true);
    }
}
