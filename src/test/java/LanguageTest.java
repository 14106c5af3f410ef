import java.io.IOException;
import java.nio.file.Files;
import java.nio.file.Path;
import java.util.regex.Matcher;
import java.util.regex.Pattern;

/** The text of the class keeps to what LANGUAGE.md can be searched for. It is run from the project's folder. */
public final class LanguageTest {
    public static void main(String[] args) throws IOException {
        Due due = new Due("the language");
        String text = Files.readString(Path.of("src/main/java/SampleTracker.java"));
        String code = text.replaceAll("(?s)/\\*.*?\\*/", "").replaceAll("//[^\n]*", "");
        String[] words = {"throw", "throws", "try", "catch", "synchronized", "assert", "import", "package", "protected",
            "volatile", "native", "var", "instanceof", "System", "Thread", "Object", "String", "double", "float"};
        for (String word : words) {
            due.holds("no " + word, !Pattern.compile("\\b" + word + "\\b").matcher(code).find());
        }
        String[] signs = {"->", "::", "Exact", "@", "\"", "static {", "[][]"};
        for (String sign : signs) {
            due.holds("no " + sign, !code.contains(sign));
        }
        for (char c : text.toCharArray()) {
            if (c > 126) {
                due.is("plain characters alone", c, 0);
            }
        }
        madeInConstructorsAlone(due, code);
        methodsAreShort(due, code);
        due.end();
    }

    /** All calls of a run live in one room: what is not made in a constructor would be made again and again. */
    private static void madeInConstructorsAlone(Due due, String code) {
        String method = "";
        Matcher head = Pattern.compile("^ {4,8}(?! ).*\\b(\\w+)\\(.*\\) \\{$").matcher("");
        for (String line : code.split("\n")) {
            if (head.reset(line).find()) {
                method = head.group(1);
            } else if (line.equals("    }") || line.equals("        }")) {
                method = "";
            }
            if (line.contains("new ")) {
                due.holds("made in a constructor or in a field: " + line.trim(),
                    method.isEmpty() ? line.contains(" final ") : Character.isUpperCase(method.charAt(0)));
            }
        }
    }

    private static void methodsAreShort(Due due, String code) {
        int lines = 0;
        for (String line : code.split("\n")) {
            lines = line.equals("    }") || line.equals("        }") || line.isBlank() ? 0 : lines + 1;
            due.holds("some sixty lines: " + line, lines <= 60);
        }
    }
}
