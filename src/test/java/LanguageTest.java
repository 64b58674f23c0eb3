import java.io.IOException;
import java.nio.file.Files;
import java.nio.file.Path;
import java.util.List;
import java.util.regex.Pattern;

/** What can be seen of the rules of LANGUAGE.md in the text of the class; run from the project's folder. */
public final class LanguageTest {
    private static final String[] FORBIDDEN = {
        "^\\s*package\\b", "^\\s*import\\b(?! java\\.util\\.)", "^(?!.*\\b(case|default)\\b).*->", "::",
        "\\b(finally|synchronized|assert)\\b", "\\bstatic\\s*\\{", "\\b(hashCode|getMessage)\\s*\\(", "Exact\\(",
        "\\bSystem\\.(?!arraycopy)", "\\bMath\\.(?!min|max|abs|floorDiv|floorMod)",
        "\\b(Object|Thread|Random|Runtime|Throwable|Error)\\b", "\\bstatic final (float|double)\\b",
        "catch \\((?!(IllegalState|IllegalArgument|IndexOutOfBounds|Arithmetic|UnsupportedOperation|NoSuchElement|Runtime)Exception\\b)"};
    /** "some sixty lines" and "some twelve classes". */
    private static final int MOST_LINES = 70, MOST_CLASSES = 14;

    public static void main(String[] args) throws IOException {
        List<String> lines = Files.readAllLines(Path.of("src/main/java/QuorumHall.java"));
        int classes = 0;
        int length = 0;
        for (int i = 0; i < lines.size(); i++) {
            String code = code(lines.get(i));
            for (String rule : FORBIDDEN) {
                Check.due("line " + (i + 1) + " with " + rule, Pattern.compile(rule).matcher(code).find(), false);
            }
            if (Pattern.compile("\\bclass \\w+").matcher(code).find()) classes++;
            boolean outside = code.matches("( {4}| {8})?}") || code.isBlank();
            length = outside ? 0 : length + 1;
            Check.due("line " + (i + 1) + " is in a method that is too long", length > MOST_LINES, false);
        }
        Check.due("not too many classes", classes <= MOST_CLASSES, true);
        Check.end("LanguageTest");
    }

    /** The line without its texts and comments. */
    private static String code(String line) {
        String code = line.replaceAll("\"[^\"]*\"", "\"\"").replaceAll("//.*", "");
        return code.matches("\\s*(/\\*|\\*).*") ? "" : code;
    }
}
