import java.io.IOException;
import java.nio.charset.StandardCharsets;
import java.nio.file.DirectoryStream;
import java.nio.file.Files;
import java.nio.file.Path;
import java.util.TreeSet;
import java.util.regex.Matcher;
import java.util.regex.Pattern;

/** The cases that src/test/SENTENCES.md names are there, for each promise. Runs in the project's directory. */
public final class SentencesTest {
    private static final Path TABLE = Path.of("src/test/SENTENCES.md");
    private static final Path TESTS = Path.of("src/test/java");

    public static void main(String[] args) throws IOException {
        Check.begin("SENTENCES.md");
        TreeSet<String> cases = cases();
        String table = Files.readString(TABLE, StandardCharsets.ISO_8859_1);
        Matcher named = Pattern.compile("\\b(promise\\d\\w*)(\\*?)").matcher(table);
        while (named.find()) {
            String beginning = named.group(1);
            String first = cases.ceiling(beginning);
            boolean there = named.group(2).isEmpty() ? cases.contains(beginning)
                    : first != null && first.startsWith(beginning);
            Check.that(named.group() + " is there", there);
        }
        for (int promise = 1; promise <= 23; promise++) {
            String beginning = String.format("promise%02d", promise);
            Check.that(beginning + " is named", Pattern.compile(beginning + "(?!To\\d)[A-Z]").matcher(table).find());
        }
        Check.end();
    }

    private static TreeSet<String> cases() throws IOException {
        TreeSet<String> cases = new TreeSet<>();
        try (DirectoryStream<Path> tests = Files.newDirectoryStream(TESTS, "*Test.java")) {
            for (Path test : tests) {
                String source = Files.readString(test, StandardCharsets.ISO_8859_1);
                Matcher method = Pattern.compile("static void (promise\\w+)\\(\\)").matcher(source);
                while (method.find()) {
                    cases.add(method.group(1));
                }
            }
        }
        return cases;
    }
}
