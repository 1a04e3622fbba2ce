import java.io.IOException;
import java.nio.file.Files;
import java.nio.file.Path;
import java.util.regex.Matcher;
import java.util.regex.Pattern;

/** The rules of LANGUAGE.md that the text of the class shows; it is run from the project's root. */
public final class LanguageTest {
    private static final String[] FORBIDDEN = {
        "\\b(throw|throws|try|catch|finally|synchronized|assert|package|native|volatile)\\b",
        "->", "::", "\\bnew\\s+\\w+\\s*\\([^)]*\\)\\s*\\{", "\\bstatic\\s*\\{",
        "\\w+Exact\\b", "\\bSystem\\.(?!arraycopy)", "\\b(Thread|Random|Object|Iterator|Map|Set)\\b",
        "\\b(hashCode|toString|getClass)\\b", "\\bwhile\\s*\\(\\s*true", "\\bfor\\s*\\(\\s*;",
        "\\[\\s*\\]\\s*\\[\\s*\\]\\s*\\["};
    private static final Due due = new Due("LanguageTest");

    public static void main(String[] args) throws IOException {
        String text = Files.readString(Path.of("src/main/java/RibbonSetter.java"));
        String code = text.replaceAll("(?s)/\\*.*?\\*/", " ").replaceAll("//[^\\n]*", " ");
        for (String pattern : FORBIDDEN) {
            due.is("holds " + pattern, Pattern.compile(pattern).matcher(code).find(), false);
        }
        Matcher imports = Pattern.compile("import\\s+([\\w.*]+)\\s*;").matcher(code);
        while (imports.find()) {
            due.is("import of " + imports.group(1),
                imports.group(1).matches("java\\.util\\.(Arrays|ArrayList|List)"), true);
        }
        due.is("letters beyond 255", text.chars().anyMatch(c -> c > 255), false);
        methodsAreShort(text);
        due.end();
    }

    // A method begins at a line that opens a brace one level inside a class, and ends at its twin.
    private static void methodsAreShort(String text) {
        String[] lines = text.split("\n");
        for (int i = 0; i < lines.length; i++) {
            Matcher opens = Pattern.compile("^( {4}| {8})(?! |if|for|switch)[\\w\\[\\] ]+\\([^;]*\\) \\{$").matcher(lines[i]);
            if (opens.find()) {
                int last = i;
                while (last < lines.length && !lines[last].equals(opens.group(1) + "}")) {
                    last++;
                }
                due.is("short: " + lines[i].trim(), last - i <= 60, true);
            }
        }
    }
}
