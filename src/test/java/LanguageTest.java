import java.io.IOException;
import java.nio.file.Files;
import java.nio.file.Path;
import java.util.List;
import java.util.regex.Matcher;
import java.util.regex.Pattern;

/**
 * Rules of LANGUAGE.md that can be seen in the text of the source, and that no call makes an
 * object: it is run from the project's folder.
 */
final class LanguageTest {
    private static final List<String> LIBRARY = List.of("Math", "Integer");

    public static void main(String[] args) throws IOException {
        String source = Files.readString(Path.of("src/main/java/LienTower.java"));
        String code = source.replaceAll("(?s)/\\*.*?\\*/", "").replaceAll("//[^\n]*", "");
        for (String word : List.of("throw", "throws", "try", "catch", "synchronized", "assert",
                "import", "package", "protected", "instanceof", "Object", "System")) {
            Due.holds("no " + word, !Pattern.compile("\\b" + word + "\\b").matcher(code).find());
        }
        Due.holds("no lambda or arrow", !code.contains("->"));
        Due.holds("no method reference", !code.contains("::"));
        Due.holds("no static initialiser", !Pattern.compile("static\\s*\\{").matcher(code).find());
        Due.holds("no while", !Pattern.compile("\\bwhile\\b").matcher(code).find());
        Due.holds("plain signs alone", source.chars().allMatch(c -> c < 128));
        libraryCalls(code);
        newStandsInConstructorsAlone(code);
        methodsAreShort(code);
        Due.end();
    }

    private static void libraryCalls(String code) {
        Matcher m = Pattern.compile("\\b([A-Z][A-Za-z]*[a-z])\\.[a-z]\\w*\\(").matcher(code);
        while (m.find()) {
            boolean isKnown = LIBRARY.contains(m.group(1)) || code.contains("class " + m.group(1));
            Due.holds(m.group(), isKnown && !m.group().contains("Exact"));
        }
    }

    /** By indents: a constructor's head is a name with a capital, at one or two levels. */
    private static void newStandsInConstructorsAlone(String code) {
        boolean inConstructor = false;
        for (String line : code.split("\n")) {
            if (line.matches(" {4}( {4})?\\S.*\\) \\{")) {
                inConstructor = line.matches(" +(public )?[A-Z]\\w*\\(.*");
            }
            if (Pattern.compile("\\bnew\\b").matcher(line).find()) {
                Due.holds(line.trim(), inConstructor);
            }
        }
    }

    private static void methodsAreShort(String code) {
        int length = 0;
        for (String line : code.split("\n")) {
            length++;
            if (line.matches(" {4}( {4})?\\S.*\\) \\{")) {
                length = 0;
            }
            if (line.matches(" {4}( {4})?\\}")) {
                Due.holds("a method of " + length + " lines", length <= 60);
            }
        }
    }
}
