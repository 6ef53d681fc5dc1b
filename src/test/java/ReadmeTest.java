import java.io.IOException;
import java.lang.reflect.InvocationTargetException;
import java.lang.reflect.Method;
import java.lang.reflect.Modifier;
import java.nio.file.Files;
import java.nio.file.Path;
import java.util.ArrayList;
import java.util.List;
import java.util.Set;
import java.util.TreeSet;
import java.util.regex.Matcher;
import java.util.regex.Pattern;

/** The Java in README.md is gone through line by line: each answer told behind a line is the one that the class gives. */
public final class ReadmeTest {
    private static final Pattern LINE = Pattern.compile("(?:d\\.)?([a-z]+)\\((.*)\\); *// (-?\\d+|true|false)\\b.*");
    private static final Pattern ARGUMENT = Pattern.compile("\"[^\"]*\"|[^, ]+");

    private final Set<String> asked = new TreeSet<>();
    private DarkWood d = new DarkWood();
    private int calls;

    private ReadmeTest() {
    }

    public static void main(String[] args) throws IOException, ReflectiveOperationException {
        String readme = Files.readString(Path.of("README.md"));
        ReadmeTest test = new ReadmeTest();
        Matcher block = Pattern.compile("```java\n(.*?)```", Pattern.DOTALL).matcher(readme);
        while (block.find()) {
            if (block.group(1).contains("static ")) {
                isRunHere(block.group(1));
            } else {
                for (String line : block.group(1).split("\n")) {
                    test.run(line.trim());
                }
            }
        }
        for (Method one : DarkWood.class.getDeclaredMethods()) {
            if (Modifier.isPublic(one.getModifiers())) {
                Check.due("README.md shows " + one.getName(), test.asked.contains(one.getName()), true);
            }
        }
        Check.finish();
    }

    /** The helper that README.md shows is the one below, so that what it shows is what is run. */
    private static void isRunHere(String shown) throws IOException {
        String here = Files.readString(Path.of("src/test/java/ReadmeTest.java"));
        Check.due("the helper of README.md is run here", oneLine(here).contains(oneLine(shown)), true);
    }

    private static String oneLine(String text) {
        return text.replaceAll("\\s+", " ").trim();
    }

    private void run(String line) throws ReflectiveOperationException {
        if (line.isEmpty() || line.startsWith("//")) {
            return;
        }
        if (line.equals("DarkWood d = new DarkWood();")) {
            d = new DarkWood();
            calls = 0;
            return;
        }
        Matcher one = LINE.matcher(line);
        Check.due("a line that can be run: " + line, one.matches(), true);
        if (one.matches()) {
            calls++;
            Check.due("no more calls than the document speaks of", calls <= Dark.MOST, true);
            String want = one.group(3).equals("true") ? "1" : one.group(3).equals("false") ? "0" : one.group(3);
            Check.due("README.md: " + line, call(one.group(1), one.group(2)), Long.parseLong(want));
        }
    }

    private long call(String name, String told) throws ReflectiveOperationException {
        List<String> arguments = new ArrayList<>();
        Matcher argument = ARGUMENT.matcher(told);
        while (argument.find()) {
            arguments.add(argument.group());
        }
        if (name.equals("tell")) {
            String text = arguments.get(2);
            return tell(d, Integer.parseInt(arguments.get(1)), text.substring(1, text.length() - 1));
        }
        asked.add(name);
        for (Method one : DarkWood.class.getDeclaredMethods()) {
            if (one.getName().equals(name) && Modifier.isPublic(one.getModifiers())) {
                return answer(one, arguments);
            }
        }
        Check.due("there is a method " + name, false, true);
        return 0;
    }

    private long answer(Method one, List<String> arguments) throws ReflectiveOperationException {
        Object[] given = new Object[arguments.size()];
        for (int i = 0; i < given.length; i++) {
            String argument = arguments.get(i);
            boolean isTruth = argument.equals("true") || argument.equals("false");
            given[i] = isTruth ? (Object) argument.equals("true")
                    : (Object) (argument.equals("DarkWood.NONE") ? DarkWood.NONE : Integer.decode(argument));
        }
        try {
            Object got = one.invoke(d, given);
            return got instanceof Boolean truth ? (truth ? 1 : 0) : ((Number) got).longValue();
        } catch (InvocationTargetException thrown) {
            Check.due(one.getName() + " never throws: " + thrown.getCause(), true, false);
            return 0;
        }
    }

    static int tell(DarkWood d, int sort, String text) {
        for (int at = 0; at < text.length(); at += 20) {
            int[] five = new int[5];
            for (int i = 0; i < 20 && at + i < text.length(); i++) {
                five[i / 4] |= text.charAt(at + i) << 24 - 8 * (i % 4);
            }
            d.feed(five[0], five[1], five[2], five[3], five[4]);
        }
        d.end(text.length());
        return d.text(sort);
    }
}
