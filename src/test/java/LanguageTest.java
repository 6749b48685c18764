import java.io.IOException;
import java.nio.charset.StandardCharsets;
import java.nio.file.Files;
import java.nio.file.Path;
import java.util.ArrayDeque;
import java.util.Deque;
import java.util.HashSet;
import java.util.Set;
import java.util.regex.Matcher;
import java.util.regex.Pattern;

/** Rules of LANGUAGE.md that can be seen in the source of the class. Runs in the project's directory. */
public final class LanguageTest {
    /** Types of the library that rules 3 and 4 name. */
    private static final Set<String> LIBRARY = Set.of("String", "StringBuilder", "Integer", "Long", "Math", "ArrayList", "List",
            "Iterator", "Iterable", "Comparable", "System", "Arrays", "Override");

    public static void main(String[] args) throws IOException {
        String source = Files.readString(Path.of("src/main/java/ColourPatches.java"), StandardCharsets.ISO_8859_1);
        String code = source.replaceAll("(?s)/\\*.*?\\*/", "").replaceAll("//[^\n]*", "");
        constants(code);
        // A sign or a text is no code.
        String bare = code.replaceAll("'(\\\\.|[^'\\\\])+'", "' '").replaceAll("\"(\\\\.|[^\"\\\\])*\"", "\"\"");
        words(bare);
        library(bare);
        methodLengths(bare);
        parameters(bare);
        making(bare);
        Check.end();
    }

    private static void absent(String code, String what, String pattern) {
        Matcher found = Pattern.compile(pattern).matcher(code);
        boolean there = found.find();
        Check.that(what + (there ? ": " + found.group() : ""), !there);
    }

    private static void constants(String code) {
        Check.begin("rule 4");
        Check.that("the code has signs 1 to 127 alone", code.chars().allMatch(sign -> sign > 0 && sign < 128));
    }

    private static void words(String code) {
        Check.begin("words");
        absent(code, "rule 6: exceptions and the like", "\\b(throw|throws|try|catch|finally|synchronized|assert)\\b");
        absent(code, "rule 6: of own objects", "\\b(boolean\\s+equals|int\\s+hashCode|String\\s+toString)\\s*\\(");
        absent(code, "the file: package", "\\bpackage\\s+\\w");
        absent(code, "rule 4: import", "\\bimport\\s+(?!java\\.util\\.(ArrayList|List|Iterator|Arrays)\\s*;)");
        absent(code, "rule 2: method reference", "::");
        absent(code, "rule 2: lambda", "(?m)^(?!\\s*(case|default)\\b).*->");
        absent(code, "rule 5: static state", "\\bstatic\\s+(?!final\\b|class\\b|record\\b|enum\\b|interface\\b)[\\w\\[\\]<>]+\\s+\\w+\\s*(=|;)");
        absent(code, "rule 5: static block", "\\bstatic\\s*\\{");
        absent(code, "rule 9: a loop without an end", "\\bwhile\\s*\\(\\s*true\\s*\\)|\\bfor\\s*\\([^;]*;\\s*;");
        absent(code, "rule 10: texts by +", "\"\\s*\\+|\\+\\s*\"");
    }

    /** Names with small letters that begin with a big one are the file's own, or those of rules 3 and 4. */
    private static void library(String code) {
        Check.begin("rule 4");
        Set<String> own = new HashSet<>();
        Matcher declared = Pattern.compile("\\b(?:class|interface|enum|record)\\s+(\\w+)").matcher(code);
        while (declared.find()) {
            own.add(declared.group(1));
        }
        Matcher named = Pattern.compile("\\b[A-Z]\\w*[a-z]\\w*\\b").matcher(code);
        while (named.find()) {
            Check.that(named.group(), own.contains(named.group()) || LIBRARY.contains(named.group()));
        }
        absent(code, "a function of Math", "\\bMath\\.(?!(abs|max|min|floorDiv|floorMod)\\s*\\()");
        absent(code, "a function of System", "\\bSystem\\.(?!arraycopy\\s*\\()");
        absent(code, "a function of Arrays", "\\bArrays\\.(?!(copyOf|copyOfRange|fill)\\s*\\()");
        absent(code, "a function that throws", "\\.(\\w+Exact|parse\\w+)\\s*\\(");
    }

    private static void methodLengths(String code) {
        Check.begin("rule 11");
        String[] lines = code.split("\n");
        Deque<Integer> opened = new ArrayDeque<>();
        for (int at = 0; at < lines.length; at++) {
            for (char sign : lines[at].toCharArray()) {
                if (sign == '{') {
                    opened.push(at);
                } else if (sign == '}') {
                    int from = opened.pop();
                    boolean isMethod = lines[from].contains("(");
                    Check.that("a long method at " + lines[from].trim(), !isMethod || at - from <= 70);
                }
            }
        }
    }

    private static void parameters(String code) {
        Check.begin("rule 11");
        Matcher list = Pattern.compile("\\(([^()]*)\\)\\s*\\{").matcher(code);
        while (list.find()) {
            Check.that("parameters " + list.group(1), list.group(1).split(",").length <= 7);
        }
    }

    /** Rows and objects are made by constructors alone, so that no number of calls fills the room. */
    private static void making(String code) {
        Check.begin("rule 12");
        Pattern constructor = Pattern.compile("^ *(public )?[A-Z]\\w*\\(.*\\) \\{$");
        Pattern method = Pattern.compile("^    (    )?(\\w+ )*[\\w\\[\\]]+ \\w+\\(.*\\{$");
        String within = "no method";
        int made = 0;
        for (String line : code.split("\n")) {
            if (constructor.matcher(line).matches() || method.matcher(line).matches()) {
                within = line;
            }
            if (Pattern.compile("\\bnew\\b").matcher(line).find()) {
                made++;
                Check.that(line.trim() + " in " + within.trim(), constructor.matcher(within).matches());
            }
        }
        Check.that("something is made", made > 0);
    }
}
