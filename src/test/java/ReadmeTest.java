import java.io.IOException;
import java.lang.reflect.Method;
import java.lang.reflect.Modifier;
import java.nio.charset.StandardCharsets;
import java.nio.file.DirectoryStream;
import java.nio.file.Files;
import java.nio.file.Path;
import java.util.HashSet;
import java.util.Set;
import java.util.regex.Matcher;
import java.util.regex.Pattern;

/** What README.md says holds: its example, its calls, its error codes, its tests. Runs in the project's directory. */
public final class ReadmeTest {
    private static final Pattern ROW = Pattern.compile("mesh\\.(\\w+)\\((.*)\\);\\s+// (-?\\d+)\\b.*");

    public static void main(String[] args) throws IllegalAccessException {
        Cases.run(ReadmeTest.class, args);
    }

    private static String readme() throws IOException {
        return Files.readString(Path.of("README.md"), StandardCharsets.ISO_8859_1);
    }

    /** Each row of the example, one by one on one object. */
    static void promise01To23TheExampleAnswersAsItSays() throws IOException, ReflectiveOperationException {
        String readme = readme();
        int from = readme.indexOf("```java\n");
        String example = readme.substring(from + 8, readme.indexOf("```", from + 8));
        ColourPatches mesh = null;
        int rows = 0;
        for (String line : example.split("\n")) {
            Matcher row = ROW.matcher(line);
            if (line.equals("ColourPatches mesh = new ColourPatches();")) {
                mesh = new ColourPatches();
            } else if (row.matches()) {
                Check.due(line, call(mesh, row.group(1), row.group(2)), Integer.parseInt(row.group(3)));
                rows++;
            } else {
                Check.that("an empty row: " + line, line.isEmpty());
            }
        }
        Check.that("there are rows", rows > 20);
    }

    private static int call(ColourPatches mesh, String name, String given) throws ReflectiveOperationException {
        String[] told = given.isEmpty() ? new String[0] : given.split(", ");
        Class<?>[] types = new Class<?>[told.length];
        Object[] numbers = new Object[told.length];
        for (int at = 0; at < told.length; at++) {
            types[at] = int.class;
            numbers[at] = told[at].startsWith("'") ? (int) told[at].charAt(1) : Integer.parseInt(told[at]);
        }
        return (Integer) ColourPatches.class.getMethod(name, types).invoke(mesh, numbers);
    }

    static void promise02To23EachCallIsToldWithItsArguments() throws IOException {
        Set<String> told = new HashSet<>();
        Matcher row = Pattern.compile("(?m)^\\| `(\\w+)\\((.*)\\)` \\| .+ \\|$").matcher(readme());
        while (row.find()) {
            told.add(row.group(1) + " " + (row.group(2).isEmpty() ? 0 : row.group(2).split(", ").length));
        }
        int calls = 0;
        for (Method method : ColourPatches.class.getDeclaredMethods()) {
            if (Modifier.isPublic(method.getModifiers())) {
                calls++;
                String call = method.getName() + " " + method.getParameterCount();
                Check.that(call + " is told", told.contains(call));
            }
        }
        Check.due("calls that are told", told.size(), calls);
    }

    static void promise01To23TheErrorCodesAreTold() throws IOException {
        int[] codes = {ColourPatches.INVALID_ARGUMENT, ColourPatches.NOT_POSSIBLE, ColourPatches.LIMIT_REACHED,
            ColourPatches.NOT_FOUND};
        String[] names = {"INVALID_ARGUMENT", "NOT_POSSIBLE", "LIMIT_REACHED", "NOT_FOUND"};
        String readme = readme();
        int place = 0;
        for (int at = 0; at < codes.length; at++) {
            int next = readme.indexOf("| `" + names[at] + "` | " + codes[at] + " |", place);
            Check.that(names[at] + " is told, in its order", next > place);
            place = Math.max(place, next);
        }
    }

    static void promise01To23EachTestIsTold() throws IOException {
        String readme = readme();
        try (DirectoryStream<Path> tests = Files.newDirectoryStream(Path.of("src/test/java"), "*Test.java")) {
            for (Path test : tests) {
                String name = test.getFileName().toString().replace(".java", "");
                Check.that(name + " is told", readme.contains("\n| `" + name + "` | "));
            }
        }
        Check.that("how all are run is told", readme.contains("`.ci/run`"));
    }
}
