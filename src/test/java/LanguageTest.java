import java.nio.file.Files;
import java.nio.file.Path;
import java.util.regex.Matcher;
import java.util.regex.Pattern;

/** What can be seen in the source of the rules of shared/LANGUAGE.md; one argument: the source file. */
public final class LanguageTest {

    private static int wrong = 0;

    private static void none(String source, String pattern, String what) {
        Matcher m = Pattern.compile(pattern).matcher(source);
        while (m.find()) {
            wrong++;
            int line = (int) source.substring(0, m.start()).chars().filter(c -> c == '\n').count() + 1;
            System.out.println("line " + line + ": " + what + ": " + m.group().trim());
        }
    }

    public static void main(String[] args) throws Exception {
        String path = args.length > 0 ? args[0] : "src/main/java/ColumnsLevelled.java";
        String source = withoutComments(Files.readString(Path.of(path)));
        none(source, "\\b(throw|throws|try|catch|finally|synchronized|assert|native|volatile|transient)\\b", "rule 6");
        none(source, "\\b(package|import)\\b", "rule 4");
        none(source, "->|::", "rule 2");
        none(source, "\\b(System|Thread|Object|Class|Exception|Random|Stream|Optional|Map|HashMap|Set)\\b", "rule 4");
        none(source, "\\b(equals|hashCode|toString)\\s*\\(", "rule 6");
        none(source, "\\w+Exact\\s*\\(", "rule 4");
        none(source, "\"\\s*\\+|\\+\\s*\"", "rule 10: texts joined by +");
        none(source, "\\b(double|float)\\b", "no doubles are needed");
        none(source, "static\\s*\\{", "rule 5");
        none(source, "(?m)^    (?!private|public|/|\\*|}|\\s)\\S.*", "rule 1: a member neither private nor public");
        none(source, "\\[\\]\\[\\]\\[\\]|Run\\[\\]\\[\\]|boolean\\[\\]\\[\\]", "rule 3");
        none(source, "[^\\x00-\\x7f]", "rule 3");
        sizes(source);
        allocations(source);
        System.out.println(wrong == 0 ? "no rule is broken that can be seen" : wrong + " places break a rule");
        if (wrong != 0) {
            System.exit(1);
        }
    }

    private static String withoutComments(String source) {
        Matcher m = Pattern.compile("/\\*.*?\\*/|//[^\n]*", Pattern.DOTALL).matcher(source);
        return m.replaceAll(r -> r.group().replaceAll("[^\n]", " "));
    }

    /** Rule 11: at most seven parameters, some sixty lines, some twelve classes. */
    private static void sizes(String source) {
        String[] lines = source.split("\n", -1);
        int classes = 0;
        for (int i = 0; i < lines.length; i++) {
            if (lines[i].matches(".*\\bclass\\b.*\\{")) {
                classes++;
            }
            Matcher m = Pattern.compile("^( {4}| {8})\\S.*\\((.*)\\) \\{$").matcher(lines[i]);
            if (m.find() && !lines[i].matches("\\s*(if|for|while|switch)\\b.*")) {
                int end = i;
                while (end < lines.length && !lines[end].equals(m.group(1) + "}")) {
                    end++;
                }
                if (end - i > 60 || m.group(2).split(",").length > 7) {
                    wrong++;
                    System.out.println("line " + (i + 1) + ": rule 11: " + lines[i].trim());
                }
            }
        }
        if (classes > 12) {
            wrong++;
            System.out.println("rule 11: " + classes + " classes");
        }
    }

    /** Rule 12, kept strictly: objects and arrays are made in constructors alone. */
    private static void allocations(String source) {
        String[] lines = source.split("\n", -1);
        boolean maker = false;
        for (int i = 0; i < lines.length; i++) {
            boolean method = lines[i].matches("^( {4}| {8})\\S.*\\(.*\\) \\{$");
            if (method && !lines[i].matches("\\s*(if|for|while|switch)\\b.*")) {
                maker = lines[i].matches("\\s*(public )?[A-Z]\\w*\\(.*\\) \\{");
            }
            if (lines[i].matches(".*\\bnew\\b.*") && !maker) {
                wrong++;
                System.out.println("line " + (i + 1) + ": rule 12: made in a call: " + lines[i].trim());
            }
        }
    }
}
