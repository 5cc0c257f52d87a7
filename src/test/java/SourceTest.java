import java.nio.file.Files;
import java.nio.file.Path;
import java.util.List;
import java.util.regex.Pattern;

/** Some rules of LANGUAGE.md that can be seen in the text of the class. */
public final class SourceTest {
    public static void main(String[] args) throws Exception {
        Check check = new Check();
        Path path = Path.of(args.length > 0 ? args[0] : "src/main/java/ExitFlows.java");
        List<String> lines = Files.readAllLines(path);
        String code = Files.readString(path).replaceAll("(?s)/\\*.*?\\*/", "").replaceAll("//[^\n]*", "");
        for (String word : List.of("package", "try", "catch", "finally", "throw", "throws", "synchronized", "assert",
                "Float", "Double", "Object", "protected", "null")) {
            check.that("without " + word, !Pattern.compile("\\b" + word + "\\b").matcher(code).find());
        }
        for (String sign : List.of("->", "::", "Exact", "static {", "System.out")) {
            check.that("without " + sign, !code.contains(sign));
        }
        for (String line : code.split("\n")) {
            if (line.startsWith("import")) {
                check.that(line, line.equals("import java.util.Arrays;"));
            }
            check.that("no object is made in a call: " + line, !line.contains("new ")
                || line.matches("    (    )?private final .* = new .*;"));
        }
        int start = 0;
        for (int n = 0; n < lines.size(); n++) {
            if (lines.get(n).matches(" {4}( {4})?(public|private)[^=;]*\\{")) {
                start = n;
            }
            boolean isEnd = lines.get(n).matches(" {4}( {4})?\\}") && !lines.get(start).contains(" class ");
            check.that("a method of at most sixty lines ends at line " + (n + 1), !isEnd || n - start < 60);
        }
        check.end();
    }
}
