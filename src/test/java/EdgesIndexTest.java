import java.io.IOException;
import java.nio.file.DirectoryStream;
import java.nio.file.Files;
import java.nio.file.Path;
import java.util.ArrayList;
import java.util.List;
import java.util.regex.Matcher;
import java.util.regex.Pattern;

/** Every promise has tests of its edges; and what of the document no test names is shown. */
public final class EdgesIndexTest {
    private static final Pattern NAMED = Pattern.compile(
            "edge\\.(says|promises)\\((?:(\\d+),\\s*)?((?:\"(?:[^\"\\\\]|\\\\.)*\"\\s*\\+?\\s*)+)\\)");
    private static final Pattern QUOTED = Pattern.compile("\"((?:[^\"\\\\]|\\\\.)*)\"");
    private static final List<String> sentences = new ArrayList<>();
    private static final boolean[] promises = new boolean[43];

    public static void main(String[] args) throws IOException {
        try (DirectoryStream<Path> files = Files.newDirectoryStream(Path.of("src/test/java"), "Edges*Test.java")) {
            for (Path file : files) {
                collect(Files.readString(file));
            }
        }
        Due due = new Due("EdgesIndexTest");
        for (int number = 1; number <= 42; number++) {
            due.holds("promise " + number + " has tests of its edges", promises[number]);
        }
        String document = Edge.theDocument();
        if (!document.isEmpty()) {
            show(document.replaceAll("\\s+", " "));
        }
        due.finish();
    }

    private static void collect(String source) {
        Matcher named = NAMED.matcher(source);
        while (named.find()) {
            StringBuilder words = new StringBuilder();
            Matcher quoted = QUOTED.matcher(named.group(3));
            while (quoted.find()) {
                words.append(quoted.group(1).replace("\\\"", "\""));
            }
            sentences.add(words.toString());
            if (named.group(2) != null) {
                promises[Integer.parseInt(named.group(2))] = true;
            }
        }
    }

    /** What stands in Terms and promises and is named by no test: to be looked at, not a failure. */
    private static void show(String document) {
        String rest = document.substring(document.indexOf("## Terms") + 8, document.indexOf("## Not promised"));
        rest = rest.replace("```text", "~").replace("```", "~").replaceAll(" (I|II|III|IV)\\. ", " ~ ").replace("The constants:", "~");
        sentences.sort((a, b) -> b.length() - a.length());
        for (String sentence : sentences) {
            rest = rest.replace(sentence, "~");
        }
        rest = rest.replaceAll("## Promise \\d+: [A-Za-z ]+ `[^`]*`", "~").replaceAll("[\\s~.,:;`]*~[\\s~.,:;`]*", " ~ ");
        for (String part : rest.split("~")) {
            if (part.trim().length() > 2) {
                System.out.println("named by no test: " + part.trim());
            }
        }
    }
}
