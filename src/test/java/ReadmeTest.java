import java.io.IOException;
import java.lang.reflect.Method;
import java.lang.reflect.Modifier;
import java.nio.file.Files;
import java.nio.file.Path;
import java.util.List;
import java.util.regex.Matcher;
import java.util.regex.Pattern;
import java.util.stream.Stream;

/**
 * README.md is as it says: each call in its Java parts answers what stands behind it (up to the colon), each call of
 * the face is there, and its tables name just the tests that there are.
 */
public final class ReadmeTest {
    private static final Pattern NEW = Pattern.compile("FenceYards yards = new FenceYards\\(\\);");
    private static final Pattern TELL = Pattern.compile("tell\\(yards, (\\d), \"([^\"]*)\"\\); +// (\\S+?)(: .*)?");
    private static final Pattern CALL = Pattern.compile("yards\\.(\\w+)\\((.*?)\\); +// (\\S+?)(: .*)?");

    private FenceYards yards = new FenceYards();
    private int calls = 0;

    public static void main(String[] args) throws IOException {
        List<String> lines = Files.readAllLines(Path.of("README.md"));
        new ReadmeTest().runParts(lines);
        dueAllCalls(String.join("\n", lines));
        dueAllTests(String.join("\n", lines));
        Check.finish();
    }

    /** The parts go on with one another's object, as a reader would. */
    private void runParts(List<String> lines) {
        boolean within = false;
        for (String line : lines) {
            if (line.startsWith("```")) {
                within = line.equals("```java");
            } else if (within && !line.isBlank()) {
                run(line);
            }
        }
        Check.due("README has calls", calls > 0 && calls <= 512, true);
    }

    private void run(String line) {
        Matcher tell = TELL.matcher(line);
        Matcher call = CALL.matcher(line);
        if (NEW.matcher(line).matches()) {
            yards = new FenceYards();
        } else if (tell.matches()) {
            calls += 3;
            String got = String.valueOf(Check.tell(yards, Integer.parseInt(tell.group(1)), tell.group(2)));
            due(line, got, tell.group(3));
        } else if (call.matches()) {
            calls++;
            due(line, Called.answer(yards, call.group(1), arguments(call.group(2))), call.group(3));
        } else {
            due(line, "not run", "a call with its answer");
        }
    }

    private static Object[] arguments(String written) {
        return Stream.of(written.split(", ")).filter(word -> !word.isEmpty()).map(ReadmeTest::argument).toArray();
    }

    private static Object argument(String word) {
        if (word.equals("true") || word.equals("false")) {
            return word.equals("true");
        }
        if (word.equals("FenceYards.NONE")) {
            return FenceYards.NONE;
        }
        if (word.endsWith("L")) {
            return Long.decode(word.substring(0, word.length() - 1));
        }
        return Long.decode(word).intValue();
    }

    private static void due(String line, String got, String want) {
        if (!got.equals(want)) {
            Check.due("README \"" + line + "\" (" + got + ")", false, true);
        }
    }

    private static void dueAllCalls(String readme) {
        for (Method method : FenceYards.class.getDeclaredMethods()) {
            if (Modifier.isPublic(method.getModifiers())) {
                Check.due("README has " + method.getName(), readme.contains("yards." + method.getName() + "("), true);
            }
        }
    }

    private static void dueAllTests(String readme) throws IOException {
        try (Stream<Path> files = Files.list(Path.of("src/test/java"))) {
            for (Path file : files.toList()) {
                String name = file.getFileName().toString().replace(".java", "");
                Check.due("README names " + name, readme.contains("`" + name + "`"), true);
            }
        }
        Matcher named = Pattern.compile("`(\\w+Test)`").matcher(readme);
        while (named.find()) {
            boolean there = Files.exists(Path.of("src/test/java", named.group(1) + ".java"));
            Check.due("README's " + named.group(1) + " is there", there, true);
        }
    }
}
