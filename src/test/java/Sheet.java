import java.io.IOException;
import java.io.UncheckedIOException;
import java.nio.file.Files;
import java.nio.file.Path;
import java.util.Arrays;
import java.util.LinkedHashMap;
import java.util.Map;

/**
 * Tests by sentences. Each names the part of the document and the words for which it stands; words
 * that the document does not have are a failure, as are words of it for which no test stands.
 */
final class Sheet {

    /** What the document says under one of its headings, and for which of it a test stands. */
    private static final class Part {
        final String words;
        final boolean[] tested;

        Part(String words) {
            this.words = words;
            tested = new boolean[words.length()];
        }

        boolean mark(String sentence) {
            int from = words.indexOf(sentence);
            for (int at = from; at >= 0; at = words.indexOf(sentence, at + 1)) {
                Arrays.fill(tested, at, at + sentence.length(), true);
            }
            return from >= 0;
        }
    }

    private final Map<String, Part> parts = new LinkedHashMap<>();
    private String heading = "";
    private String term = "";
    private String sentence = "";
    private int asked;
    private int wrong;
    private int passed;
    private int failed;

    /** The headings of the document for which tests stand begin with those words. */
    Sheet(String... headings) {
        for (String part : document().split("\n## ")) {
            String title = part.lines().findFirst().orElse("");
            for (String wanted : headings) {
                if (title.startsWith(wanted)) {
                    parts.put(title, new Part(wordsOf(part.substring(title.length()))));
                }
            }
        }
    }

    private static String document() {
        try {
            return Files.readString(Path.of("../shared/DOC.md"));
        } catch (IOException e) {
            throw new UncheckedIOException(e);
        }
    }

    /** Without the marks of the page and the faces of the methods, with one blank between words. */
    private static String wordsOf(String part) {
        return part.replaceAll("(?m)^```.*$", "")
            .replaceAll("==== [IVX]+\\. ", "")
            .replaceAll("(?m)^`[^`]*\\)`: ", "")
            .replaceAll("\\s+", " ").trim();
    }

    void under(String title) {
        heading = title;
        term = "";
        if (!parts.containsKey(title)) {
            fail("the document has no such heading");
        }
    }

    /** Of which of the words in capitals under the heading the next tests are. */
    void term(String name) {
        term = ", " + name;
        if (!parts.get(heading).words.contains(name)) {
            fail("the document has no such term");
        }
    }

    /** One test: it stands for those words under the heading. */
    void test(String words, Runnable body) {
        sentence = words;
        asked = 0;
        wrong = 0;
        Part part = parts.get(heading);
        if (part == null || !part.mark(words)) {
            say("the document has no such words there");
        }
        try {
            body.run();
        } catch (RuntimeException | Error e) {
            say("threw " + e);
        }
        if (asked == 0) {
            say("nothing was asked");
        }
        if (wrong == 0) {
            passed++;
        } else {
            failed++;
        }
    }

    void due(String call, int got, int want) {
        asked++;
        if (got != want) {
            say(call + " answered " + got + ", due is " + want);
        }
    }

    void due(String calls, int[] got, int... want) {
        due(calls, Arrays.toString(got), Arrays.toString(want));
    }

    void due(String calls, String got, String want) {
        asked++;
        if (!got.equals(want)) {
            say(calls + " answered " + got + ", due is " + want);
        }
    }

    private void say(String what) {
        wrong++;
        System.out.println("FAIL " + heading + term + ": \"" + sentence + "\": " + what);
    }

    private void fail(String what) {
        failed++;
        System.out.println("FAIL " + heading + term + ": " + what);
    }

    /** Ends the program: each run of words for which no test stands is a failure, too. */
    void finish() {
        for (Map.Entry<String, Part> e : parts.entrySet()) {
            heading = e.getKey();
            term = "";
            Part part = e.getValue();
            StringBuilder rest = new StringBuilder();
            for (int i = 0; i < part.tested.length; i++) {
                rest.append(part.tested[i] ? '\n' : part.words.charAt(i));
            }
            for (String words : rest.toString().split("\n+")) {
                if (words.matches(".*\\w.*")) {
                    fail("no test stands for \"" + words.trim() + "\"");
                }
            }
        }
        System.out.println(passed + " passed, " + failed + " failed");
        if (failed != 0) {
            System.exit(1);
        }
    }
}
