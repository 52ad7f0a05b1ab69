import java.io.ByteArrayOutputStream;
import java.io.IOException;
import java.io.PrintStream;
import java.nio.file.Files;
import java.nio.file.Path;
import java.util.ArrayList;
import java.util.List;
import java.util.regex.Matcher;
import java.util.regex.Pattern;

/**
 * README.md as things stand: its example is Example.java, which answers what stands behind each call,
 * and the tests, the classes inside and the files that it names are there.
 */
public final class ReadmeTest {

    private static int asked;
    private static int wrong;

    private static void due(String what, Object got, Object want) {
        asked++;
        if (!got.equals(want)) {
            wrong++;
            System.out.println("FAIL README.md: " + what + ": " + got + ", due is " + want);
        }
    }

    /** The lines of a file between two, without either. */
    private static String between(List<String> lines, String first, String last) {
        int from = lines.indexOf(first) + 1;
        if (from == 0) {
            return "";
        }
        List<String> rest = lines.subList(from, lines.size());
        return String.join("\n", rest.subList(0, Math.max(0, rest.indexOf(last))));
    }

    private static List<String> found(String pattern, String text) {
        List<String> all = new ArrayList<>();
        Matcher m = Pattern.compile(pattern).matcher(text);
        while (m.find()) {
            all.add(m.group(1));
        }
        return all;
    }

    /** The answers that Example prints, one on a line. */
    private static List<String> answers() {
        PrintStream before = System.out;
        ByteArrayOutputStream bytes = new ByteArrayOutputStream();
        System.setOut(new PrintStream(bytes, true));
        try {
            Example.main(new String[0]);
        } finally {
            System.setOut(before);
        }
        return bytes.toString().lines().toList();
    }

    private static List<String> namesIn(String folder, String ending) throws IOException {
        try (var files = Files.list(Path.of(folder))) {
            return files.map(f -> f.getFileName().toString())
                .filter(name -> name.endsWith(ending))
                .map(name -> name.substring(0, name.length() - ".java".length())).sorted().toList();
        }
    }

    public static void main(String[] args) throws IOException {
        List<String> readme = Files.readAllLines(Path.of("README.md"));
        String text = String.join("\n", readme);
        String example = String.join("\n", Files.readAllLines(Path.of("src/test/java/Example.java")));
        due("its example is Example.java", between(readme, "```java", "```"), example);
        due("answers of the example", answers(), found("show\\(x\\..*// (-?\\d+):", example));
        due("calls of the example with an answer", answers().size(), found("(show\\(x\\.)", example).size());

        for (String test : namesIn("src/test/java", "Test.java")) {
            due("it names " + test, text.contains("`" + test + "`"), true);
        }
        String program = Files.readString(Path.of("src/main/java/ColumnsLevelled.java"));
        for (String inside : found("\\n    private static final class (\\w+)", program)) {
            due("it names the class " + inside, text.contains("`" + inside + "`"), true);
        }
        for (String file : found("`((?:\\.\\./|src/|\\.ci/)[\\w./]+)`", text)) {
            due("there is " + file, Files.exists(Path.of(file)), true);
        }

        System.out.println(asked + " things asked of README.md, " + wrong + " not as due");
        if (wrong != 0) {
            System.exit(1);
        }
    }
}
