import java.io.IOException;
import java.nio.file.Files;
import java.nio.file.Path;
import java.util.List;
import java.util.regex.Matcher;
import java.util.regex.Pattern;

/** Those of LANGUAGE.md's rules that can be seen from the words of src/main/java/WatchBeats.java. */
public final class LanguageTest {
    private static final Path PROGRAM = Path.of("src/main/java/WatchBeats.java");
    private static final String BARRED = "\\b(import|package|throw|throws|try|catch|finally|synchronized|assert|var"
        + "|volatile|transient|native|protected|double|float|String|StringBuilder|Integer|Object|List|ArrayList|null\\."
        + "|hashCode|toString|equals|Exact)\\b|->|::|@|\\w+Exact\\b|\\bstatic *\\{|\\byield\\b";
    private static final String LIBRARY = "\\b[A-Z][a-z]\\w*\\.\\w+";
    private static final String LIBRARY_USED = "Math\\.(abs|max|min)|System\\.arraycopy|Long\\.MIN_VALUE";
    private static final int MOST_LINES = 60;

    public static void main(String[] args) throws IOException {
        String code = withoutComments(Files.readString(PROGRAM));
        barredDue(code);
        libraryDue(code);
        Check.holds("no sign but 1 to 127", code.chars().allMatch(sign -> sign >= 1 && sign <= 127));
        madeInConstructorsDue(code);
        methodLengthsDue(code.lines().toList());
        Check.end();
    }

    private static String withoutComments(String source) {
        return source.replaceAll("(?s)/\\*.*?\\*/", "").replaceAll("//[^\n]*", "");
    }

    private static void barredDue(String code) {
        Matcher barred = Pattern.compile(BARRED).matcher(code);
        while (barred.find()) {
            Check.holds("no " + barred.group(), false);
        }
        Check.holds("barred words were looked for", Pattern.compile(BARRED).matcher("throw x").find());
    }

    private static void libraryDue(String code) {
        Matcher library = Pattern.compile(LIBRARY).matcher(code);
        while (library.find()) {
            Check.holds(library.group() + " may be used", library.group().matches(LIBRARY_USED));
        }
    }

    /** Nothing is made while calls run: what one object takes of the room is what its constructors make. */
    private static void madeInConstructorsDue(String code) {
        for (String line : code.lines().filter(one -> one.matches(".*\\bnew\\b.*")).toList()) {
            boolean isField = line.matches(" +(private )?final [\\w\\[\\]]+ \\w+ = new [\\w\\[\\]]+(\\(\\w*\\))?;");
            Check.holds("made for good: " + line.trim(), isField || line.trim().equals("tapes[i] = new Tape();"));
        }
    }

    /** A method's first line is indented by 4 or 8 and ends in a brace, its last is a brace as far in. */
    private static void methodLengthsDue(List<String> lines) {
        for (int i = 0; i < lines.size(); i++) {
            Matcher first = Pattern.compile("( {4}| {8})[a-z][\\w\\[\\] ]* \\w+\\([\\w\\[\\], ]*\\) \\{")
                .matcher(lines.get(i));
            if (first.matches() && !lines.get(i).matches(" *(if|for|while|switch|else) .*")) {
                int length = lines.subList(i, lines.size()).indexOf(first.group(1) + "}") + 1;
                Check.holds("short: " + lines.get(i).trim(), length > 1 && length <= MOST_LINES);
            }
        }
    }
}
