import java.nio.file.Files;
import java.nio.file.Path;
import java.util.regex.Matcher;
import java.util.regex.Pattern;

/** Words that ../shared/LANGUAGE.md does not leave, looked for in the program's text without its comments. */
public final class LanguageTest {
    private static final String[] FORBIDDEN = {
        "\\b(throw|throws|try|catch|finally|synchronized|assert|native|volatile|transient|protected|package)\\b",
        "->", "::", "\\bimport\\b", "\\b(double|float|var|Object|Exception|Error|Thread|Random|Runtime)\\b",
        "Exact\\b", "\\bnull\\b", "\\bwhile\\s*\\(\\s*true", "for\\s*\\(;;", "\\bMAX_VALUE\\b|\\bMIN_VALUE\\b",
        "System\\.(?!arraycopy)", "Integer\\.(?!compare\\b|bitCount\\b)", "Math\\.(?!max\\b|min\\b|abs\\b)",
        "\\]\\s*\\[", "@"};
    private static final String[] FACE = {
        "ice", "feed", "law", "cut", "shut", "group", "settle", "minutes", "run", "square", "holeIs", "groupIs",
        "draws", "sound", "places", "closing", "rescue", "began", "fee", "row", "seed", "draw", "keep", "undo",
        "check", "count"};

    public static void main(String[] args) throws Exception {
        String text = Files.readString(Path.of(args.length > 0 ? args[0] : "src/main/java/HoleFair.java"));
        String code = text.replaceAll("(?s)/\\*.*?\\*/", "").replaceAll("//[^\n]*", "");
        int wrong = 0;
        for (String f : FORBIDDEN) {
            Matcher m = Pattern.compile(f).matcher(code);
            while (m.find()) {
                System.out.println("not left by the language: " + m.group());
                wrong++;
            }
        }
        for (String name : FACE) {
            int made = 0;
            Matcher m = Pattern.compile("(int|boolean|void|Law) " + name + "\\(").matcher(code);
            while (m.find()) {
                made++;
            }
            if (made != 1) {
                System.out.println(made + " methods are named " + name);
                wrong++;
            }
        }
        int publics = 0;
        Matcher m = Pattern.compile("\\bpublic\\b").matcher(code);
        while (m.find()) {
            publics++;
        }
        if (publics != FACE.length + 3) {
            System.out.println(publics + " public things, " + (FACE.length + 3) + " are due");
            wrong++;
        }
        wrong += longMethods(code);
        System.out.println(wrong == 0 ? "the language is kept to" : wrong + " breaks of the language");
        if (wrong != 0) {
            System.exit(1);
        }
    }

    private static int longMethods(String code) {
        int wrong = 0;
        Matcher m = Pattern.compile("(?m)^( +)(?:\\w+ )+(\\w+)\\(([^)]*)\\) \\{\\n((?:.*\\n)*?)\\1\\}").matcher(code);
        while (m.find()) {
            int lines = m.group(4).split("\n").length;
            int parameters = m.group(3).isBlank() ? 0 : m.group(3).split(",").length;
            if (lines > 60 || parameters > 7) {
                System.out.println(m.group(2) + " has " + lines + " lines, " + parameters + " parameters");
                wrong++;
            }
        }
        return wrong;
    }
}
