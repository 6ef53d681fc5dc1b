import java.io.IOException;
import java.nio.file.Files;
import java.nio.file.Path;
import java.util.ArrayList;
import java.util.List;
import java.util.regex.Matcher;
import java.util.regex.Pattern;
import java.util.stream.Stream;

/** Each sentence that a test names stands in DOC.md, and each sentence of its Terms and promises is named by a test. */
public final class QuotesTest {
    private static final Pattern NAMED = Pattern.compile("Check\\.sentence\\((\\s*\"(?:[^\"\\\\]|\\\\.)*\"(?:\\s*\\+\\s*\"(?:[^\"\\\\]|\\\\.)*\")*)\\s*\\)");
    private static final Pattern LITERAL = Pattern.compile("\"((?:[^\"\\\\]|\\\\.)*)\"");

    private QuotesTest() {
    }

    public static void main(String[] args) throws IOException {
        String doc = oneLine(Files.readString(Path.of("../shared/DOC.md")).replaceAll("```[a-z]*", " "));
        int from = doc.indexOf("## Terms");
        int to = doc.indexOf("## Not promised");
        boolean[] named = new boolean[doc.length()];
        for (String quote : quotes()) {
            Check.due("in DOC.md: " + quote, doc.contains(quote), true);
            for (int at = doc.indexOf(quote); at >= 0; at = doc.indexOf(quote, at + 1)) {
                for (int i = at; i < at + quote.length(); i++) {
                    named[i] = true;
                }
            }
        }
        StringBuilder rest = new StringBuilder();
        for (int i = from; i < to; i++) {
            rest.append(named[i] ? '\n' : doc.charAt(i));
        }
        for (String left : rest.toString().split("\n+")) {
            String words = left.replaceAll("## Promise \\d+: [A-Za-z ]+|`[^`]*`:?|====|## Terms|The constants: |\\bI{1,3}V?\\.", " ").trim();
            Check.due("named by no test: " + words, words.matches("[ .;:,()|{}]*"), true);
        }
        Check.finish();
    }

    private static String oneLine(String text) {
        return text.replaceAll("\\s+", " ");
    }

    private static List<String> quotes() throws IOException {
        List<String> all = new ArrayList<>();
        List<Path> files;
        try (Stream<Path> found = Files.list(Path.of("src/test/java"))) {
            files = found.filter(one -> one.toString().endsWith(".java")).sorted().toList();
        }
        for (Path file : files) {
            Matcher one = NAMED.matcher(Files.readString(file));
            while (one.find()) {
                StringBuilder quote = new StringBuilder();
                Matcher part = LITERAL.matcher(one.group(1));
                while (part.find()) {
                    quote.append(part.group(1));
                }
                all.add(oneLine(quote.toString()));
            }
        }
        return all;
    }
}
