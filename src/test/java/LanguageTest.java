import java.io.IOException;
import java.nio.file.Files;
import java.nio.file.Path;
import java.util.List;

/** Some rules of LANGUAGE.md that the text of the program shows; run from the project's root. */
public final class LanguageTest {
    private static final String[] FORBIDDEN = {
        "import ", "package ", "catch", "finally", "synchronized", "assert ", "->", "::",
        "System.", "Thread", "Exact(", "hashCode", "equals(", "toString", "while (true)", "for (;;)",
    };

    public static void main(String[] args) throws IOException {
        List<String> lines = Files.readAllLines(Path.of("src/main/java/TurnBus.java"));
        int classes = 0;
        for (int i = 0; i < lines.size(); i++) {
            String line = lines.get(i);
            String code = line.replaceFirst("//.*|^\\s*/?\\*.*", "");
            for (String word : FORBIDDEN) {
                Due.is("line " + (i + 1) + " has " + word, code.contains(word) ? 1 : 0, 0);
            }
            if (code.matches(".*\\bstatic\\b.*=.*")) {
                Due.is("line " + (i + 1) + " has a constant", code.contains(" final ") ? 1 : 0, 1);
            }
            for (int at = 0; at < line.length(); at++) {
                Due.is("line " + (i + 1) + " has a sign of 1 to 127", line.charAt(at) < 128 ? 1 : 0, 1);
            }
            classes += code.matches(".*\\bclass \\w+ \\{") ? 1 : 0;
        }
        Due.is("at most 12 classes", classes <= 12 ? 1 : 0, 1);
        Due.end();
    }
}
