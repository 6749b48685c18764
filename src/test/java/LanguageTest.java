import java.io.IOException;
import java.nio.charset.StandardCharsets;
import java.nio.file.Files;
import java.nio.file.Path;
import java.util.ArrayDeque;
import java.util.Deque;
import java.util.regex.Matcher;
import java.util.regex.Pattern;

/** Rules of LANGUAGE.md that can be seen in the source of the class. Runs in the project's directory. */
public final class LanguageTest {
    /** Calls on names that are not the file's own, as far as rule 4 allows and the file uses them. */
    private static final Pattern LIBRARY = Pattern.compile("\\b(Math\\.(abs|max|min|floorDiv|floorMod)|System\\.arraycopy)\\(");

    public static void main(String[] args) throws IOException {
        String source = Files.readString(Path.of("src/main/java/ColourPatches.java"), StandardCharsets.ISO_8859_1);
        Check.that("the source has signs 1 to 127 alone", source.chars().allMatch(sign -> sign > 0 && sign < 128));
        String code = withoutComments(source);
        words(code);
        library(code);
        methodLengths(code);
        parameters(code);
        Check.end();
    }

    private static String withoutComments(String source) {
        return source.replaceAll("(?s)/\\*.*?\\*/", "").replaceAll("//[^\n]*", "");
    }

    private static void absent(String code, String what, String pattern) {
        Matcher found = Pattern.compile(pattern).matcher(code);
        Check.that(what + (found.find() ? ": " + found.group() : ""), !Pattern.compile(pattern).matcher(code).find());
    }

    private static void words(String code) {
        absent(code, "rule 6", "\\b(throw|throws|try|catch|finally|synchronized|assert|instanceof)\\b");
        absent(code, "rule 3, 4: import, package", "\\b(import|package)\\b");
        absent(code, "rule 2: lambda, method reference", "->|::");
        absent(code, "rule 3: float, double", "\\b(float|double|Float|Double|Object)\\b");
        absent(code, "rule 5: static state", "\\bstatic\\s+(?!final\\b)[\\w\\[\\]]+\\s+\\w+\\s*(=|;)");
        absent(code, "rule 5: static block", "\\bstatic\\s*\\{");
        absent(code, "rule 6: equals, hashCode, toString", "\\b(equals|hashCode|toString)\\b");
        absent(code, "rule 9: a loop without an end of its own", "\\bwhile\\b|for\\s*\\(\\s*;");
        absent(code, "rule 10: texts by +", "\"\\s*\\+|\\+\\s*\"");
    }

    /** Big first letters before a dot stand for the library: only those of rule 4 may be there. */
    private static void library(String code) {
        Matcher dotted = Pattern.compile("\\b[A-Z]\\w*\\.\\w+\\(?").matcher(code);
        while (dotted.find()) {
            Check.that("rule 4: " + dotted.group(), LIBRARY.matcher(dotted.group()).matches());
        }
    }

    private static void methodLengths(String code) {
        String[] lines = code.split("\n");
        Deque<Integer> opened = new ArrayDeque<>();
        for (int at = 0; at < lines.length; at++) {
            for (char sign : lines[at].toCharArray()) {
                if (sign == '{') {
                    opened.push(at);
                } else if (sign == '}') {
                    int from = opened.pop();
                    boolean isMethod = lines[from].contains("(") && !lines[from].trim().startsWith("for");
                    Check.that("rule 11: a long method at " + lines[from].trim(), !isMethod || at - from <= 60);
                }
            }
        }
    }

    private static void parameters(String code) {
        Matcher list = Pattern.compile("\\(([^()]*)\\)\\s*\\{").matcher(code);
        while (list.find()) {
            Check.that("rule 11: parameters " + list.group(1), list.group(1).split(",").length <= 7);
        }
    }
}
