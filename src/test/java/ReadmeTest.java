import java.io.IOException;
import java.nio.charset.StandardCharsets;
import java.nio.file.DirectoryStream;
import java.nio.file.Files;
import java.nio.file.Path;
import java.util.HashMap;
import java.util.Map;
import java.util.regex.Matcher;
import java.util.regex.Pattern;

/** README.md holds what it says: its examples answer so, and it names each call and each test. */
public final class ReadmeTest {
    private static final Due DUE = new Due("ReadmeTest");
    private static final String[] CALLS = {
        "water", "road", "owe", "ofWell", "rain", "person", "ofPerson", "become", "as", "feed", "text", "law", "drink",
        "go", "pay", "days", "loose", "same", "soonest", "drinks", "reach", "dry", "net", "shortest", "walked", "alive",
        "grown", "seed", "voice", "trace", "sheet", "put", "move", "waters", "judge", "image", "restore", "tell",
        "check", "count", "told",
    };
    private static final Pattern EXAMPLE = Pattern.compile("(\\w+)\\.(\\w+)\\(([^)]*)\\);\\s*// (-?\\d+):.*");
    private static final Pattern MADE = Pattern.compile("WellNames (\\w+) = new WellNames\\(\\);.*");

    public static void main(String[] args) throws IOException {
        String text = Files.readString(Path.of("README.md"), StandardCharsets.UTF_8);
        examples(text);
        for (String call : CALLS) {
            DUE.so("a row for " + call, Pattern.compile("(?m)^\\| `" + call + "\\(").matcher(text).find());
        }
        try (DirectoryStream<Path> tests = Files.newDirectoryStream(Path.of("src/test/java"), "*Test.java")) {
            for (Path test : tests) {
                String name = test.getFileName().toString().replace(".java", "");
                DUE.so("a row for " + name, text.contains("| `" + name + "` |"));
            }
        }
        DUE.end();
    }

    private static void examples(String text) {
        Map<String, WellNames> made = new HashMap<>();
        int done = 0;
        boolean java = false;
        for (String line : text.split("\n")) {
            Matcher fresh = MADE.matcher(line);
            Matcher example = EXAMPLE.matcher(line);
            if (line.startsWith("```")) {
                java = line.equals("```java");
            } else if (java && fresh.matches()) {
                made.put(fresh.group(1), new WellNames());
            } else if (java && !line.isBlank()) {
                DUE.so("an example with its answer: " + line, example.matches() && made.containsKey(example.group(1)));
                if (example.matches() && made.containsKey(example.group(1))) {
                    long want = Long.parseLong(example.group(4));
                    DUE.is(line, want, Calls.call(made.get(example.group(1)), example.group(2), numbers(example.group(3))));
                    done++;
                }
            }
        }
        DUE.so("some examples", done > 10);
    }

    private static long[] numbers(String row) {
        if (row.isBlank()) {
            return new long[0];
        }
        String[] signs = row.split(", ");
        long[] v = new long[signs.length];
        for (int i = 0; i < v.length; i++) {
            v[i] = Long.decode(signs[i].replace("L", ""));
        }
        return v;
    }
}
