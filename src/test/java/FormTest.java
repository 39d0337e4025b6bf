import java.io.IOException;
import java.nio.file.Files;
import java.nio.file.Path;
import java.util.ArrayDeque;
import java.util.Deque;
import java.util.List;
import java.util.regex.Matcher;
import java.util.regex.Pattern;

/** What LANGUAGE.md says of the text of the class, as far as its words alone can show it. Run from the project's root. */
public final class FormTest {
    private static final Check CHECK = new Check();
    private static final int MOST_LINES = 60;

    public static void main(String[] args) throws IOException {
        String text = Files.readString(Path.of("src/main/java/MicrocodeOptimizer.java"));
        plainSigns(text);
        String code = withoutCommentsAndTexts(text);
        imports(code);
        words(code);
        library(code);
        exceptions(code);
        joinedTexts(code);
        lengths(code);
        CHECK.end();
    }

    /** Rule 4: the signs of constants are 1 to 127. */
    private static void plainSigns(String text) {
        CHECK.due("signs above 127", text.chars().filter(c -> c > 127).count(), 0);
    }

    /** Comments go, texts become empty ones, and signs become zeros; the lines stay. */
    private static String withoutCommentsAndTexts(String text) {
        Matcher m = Pattern.compile("(?s)/\\*.*?\\*/|//[^\n]*|\"(\\\\.|[^\"\\\\])*\"|'(\\\\.|[^'\\\\])'").matcher(text);
        return m.replaceAll(found -> {
            String part = found.group();
            return part.startsWith("/") ? part.replaceAll("[^\n]", "") : part.startsWith("'") ? "0" : "\"\"";
        });
    }

    /** The head of the file, and rule 4. */
    private static void imports(String code) {
        dueNone(code, "package\\s");
        dueOnly(code, "import\\s+([^;]+);", "java\\.util\\.(Arrays|ArrayList|Iterator|List|NoSuchElementException)");
    }

    /** Rules 2, 6, 9 and 10: what may not be there at all. */
    private static void words(String code) {
        for (String word : List.of("->", "::", "\\bfinally\\b", "\\bsynchronized\\b", "\\bassert\\b", "\\bvolatile\\b",
                "\\bvar\\b", "\\bnative\\b", "\\bequals\\s*\\([^\"]*\\)\\s*\\{", "\\bhashCode\\b", "\\btoString\\s*\\(\\)\\s*\\{",
                "while\\s*\\(\\s*true\\s*\\)", "for\\s*\\([^;)]*;\\s*;", "static\\s*\\{", "\\bThread\\b", "\\bObject\\b")) {
            dueNone(code, word);
        }
    }

    /** Rule 4: the functions of the library. */
    private static void library(String code) {
        dueOnly(code, "\\bSystem\\.(\\w+)", "arraycopy");
        dueOnly(code, "\\bArrays\\.(\\w+)", "copyOf|copyOfRange|fill|NoSuchElementException");
        dueNone(code, "\\b(Math|Integer|Long)\\.\\w*Exact\\b");
        dueOnly(code, "\\b(?:Math|Integer|Long)\\.(\\w+)", "max|min|abs|bitCount|compare|floorDiv|floorMod|MAX_VALUE|MIN_VALUE");
    }

    /** Rule 6, and that nothing is caught that the machine throws. */
    private static void exceptions(String code) {
        dueOnly(code, "\\bthrow\\s+([^;]+);", "new (IllegalStateException|IllegalArgumentException|"
                + "IndexOutOfBoundsException|NoSuchElementException)\\((\"\")?\\)");
        dueNone(code, "\\btry\\b");
        dueNone(code, "\\bcatch\\b");
    }

    /** Rule 10: texts are joined by StringBuilder. */
    private static void joinedTexts(String code) {
        dueNone(code, "\"\"\\s*\\+");
        dueNone(code, "\\+=?\\s*\"\"");
    }

    /** Rule 11: methods stay short. */
    private static void lengths(String code) {
        Deque<Integer> begins = new ArrayDeque<>();
        String[] lines = code.split("\n", -1);
        int methods = 0;
        for (int n = 0; n < lines.length; n++) {
            for (char c : lines[n].toCharArray()) {
                if (c == '{') {
                    begins.push(n);
                } else if (c == '}') {
                    int begin = begins.pop();
                    boolean isMethod = lines[begin].contains(")") && begins.size() <= 2
                            && !lines[begin].matches(".*\\b(if|for|while|switch|else|do)\\b.*");
                    methods += isMethod ? 1 : 0;
                    CHECK.due("lines of the method that begins in line " + (begin + 1) + " are few",
                            !isMethod || n - begin < MOST_LINES, true);
                }
            }
        }
        CHECK.due("methods were found", methods > 37, true);
    }

    private static void dueNone(String code, String pattern) {
        Matcher m = Pattern.compile(pattern).matcher(code);
        CHECK.due("in the class: " + pattern, m.find() ? m.group() : "", "");
    }

    /** Every match of the pattern has one of these as its first group. */
    private static void dueOnly(String code, String pattern, String allowed) {
        Matcher m = Pattern.compile(pattern).matcher(code);
        while (m.find()) {
            CHECK.due("allowed: " + m.group(), m.group(1).matches(allowed), true);
        }
    }
}
