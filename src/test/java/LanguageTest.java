import java.io.IOException;
import java.nio.file.Files;
import java.nio.file.Path;
import java.util.ArrayList;
import java.util.List;
import java.util.regex.Matcher;
import java.util.regex.Pattern;

/** What of ../shared/LANGUAGE.md can be seen from the words of the class alone. */
public final class LanguageTest {
    private static final List<String> FACE = List.of("feed", "end", "text", "cell", "wood", "walk", "act", "felt", "seen", "heard",
            "strike", "odds", "all", "row", "soon", "left", "fork", "remember", "tells", "aim", "look", "post", "parish", "night",
            "nights", "finest", "count", "image", "back");

    private LanguageTest() {
    }

    public static void main(String[] args) throws IOException {
        String source = Files.readString(Path.of("src/main/java/DarkWood.java"));
        signs(source);
        String bare = source.replaceAll("//.*|/\\*(?s:.*?)\\*/", "").replaceAll("\"[^\"\n]*\"", "\"\"");
        words(bare);
        truths(bare);
        methods(bare);
        Check.finish();
    }

    private static void signs(String source) {
        for (int i = 0; i < source.length(); i++) {
            char sign = source.charAt(i);
            Check.due("sign at " + i, sign == '\n' || sign >= 32 && sign < 127, true);
        }
    }

    private static void words(String bare) {
        for (String word : List.of("throw", "throws", "try", "catch", "synchronized", "assert", "instanceof", "protected", "native",
                "volatile", "import static", "java\\.util\\.(?!Arrays;)", "->", "::", "@", "System\\.(?!arraycopy)", "float", "double",
                "toString", "hashCode", "equals", "Exact\\(", "yield", "Object")) {
            String due = word.matches("[a-zA-Z]+") ? "\\b" + word + "\\b" : word;
            Matcher found = Pattern.compile(due).matcher(bare);
            Check.due("the word " + word, found.find(), false);
        }
        Matcher loops = Pattern.compile("new [A-Za-z]+[\\[(]").matcher(bare);
        int made = 0;
        while (loops.find()) {
            made++;
        }
        Check.due("little is made", made < 80, true);
        Matcher fields = Pattern.compile("^    (private |public )?static (?!final)", Pattern.MULTILINE).matcher(bare);
        while (fields.find()) {
            String line = bare.substring(fields.start(), bare.indexOf('\n', fields.start()));
            Check.due("a static field that isn't final: " + line, line.contains("("), true);
        }
        Matcher classes = Pattern.compile("\\bclass [A-Z]").matcher(bare);
        int many = 0;
        while (classes.find()) {
            many++;
        }
        Check.due("classes", many <= 12, true);
    }

    /** Of what is true or false only &&, || and ! are used: &, | and ^ are for numbers. */
    private static void truths(String bare) {
        Matcher truth = Pattern.compile("\\bboolean ([a-z][A-Za-z]*)\\b").matcher(bare);
        while (truth.find()) {
            String name = truth.group(1);
            String joined = "\\b" + name + " *([|^]|&(?!&))=|\\b" + name + " ([|&^]) |[^|&] ([|&^]) !?" + name + "\\b";
            Check.due("& or | of " + name, Pattern.compile(joined).matcher(bare).find(), false);
        }
    }

    /** Methods: short, with few parameters, and no private one with a public name. */
    private static void methods(String bare) {
        String[] lines = bare.split("\n");
        Pattern head = Pattern.compile("^( +)(private |public )?(static )?(final )?[A-Za-z\\[\\]]+ ([a-z][A-Za-z]*)\\((.*)$");
        List<String> names = new ArrayList<>();
        for (int i = 0; i < lines.length; i++) {
            Matcher one = head.matcher(lines[i]);
            boolean isHead = one.matches() && !lines[i].contains(";") && !lines[i].trim().startsWith("return")
                    && !lines[i].trim().startsWith("else") && !lines[i].trim().startsWith("new");
            if (!isHead) {
                continue;
            }
            String name = one.group(5);
            names.add(name);
            boolean isPublic = lines[i].contains("public ");
            Check.due(name + " is public as its name is the face's", isPublic, FACE.contains(name));
            int to = i;
            while (to < lines.length && !lines[to].equals(one.group(1) + "}")) {
                to++;
            }
            Check.due(name + " is short", to - i < 62, true);
            int parameters = lines[i].replaceAll("[^,]", "").length();
            Check.due(name + " has few parameters", parameters < 7 || name.equals("nights"), true);
        }
        for (String name : FACE) {
            Check.due(name + " is there", names.contains(name), true);
        }
    }
}
