import java.io.IOException;
import java.nio.charset.StandardCharsets;
import java.nio.file.Files;
import java.nio.file.Path;
import java.util.List;
import java.util.regex.Matcher;
import java.util.regex.Pattern;

/** What LANGUAGE.md forbids, looked for in the text of the class; run from the project's folder. */
public final class LanguageTest {
    private static final Check C = Check.begin();
    private static final Path SOURCE = Path.of("src/main/java/OtherDoor.java");

    private static void none(String rule, String pattern, String code) {
        Matcher m = Pattern.compile(pattern, Pattern.MULTILINE).matcher(code);
        int found = 0;
        while (m.find()) {
            found++;
            System.out.println(rule + ": " + m.group());
        }
        C.due(rule, found, 0);
    }

    private static void shortMethods(List<String> lines) {
        Pattern head = Pattern.compile("^( {4}| {8})[a-zA-Z].*\\) \\{$");
        for (int i = 0; i < lines.size(); i++) {
            Matcher m = head.matcher(lines.get(i));
            if (!m.matches()) {
                continue;
            }
            int end = i;
            while (end < lines.size() && !lines.get(end).equals(m.group(1) + "}")) {
                end++;
            }
            C.due("rule 11, lines of " + lines.get(i).trim(), end - i < 60 ? 1 : 0, 1);
        }
    }

    public static void main(String[] args) throws IOException {
        String text = Files.readString(SOURCE, StandardCharsets.UTF_8);
        String code = text.replaceAll("(?s)/\\*.*?\\*/", "").replaceAll("//[^\n]*", "").replaceAll("\"[^\"\n]*\"", "\"\"");
        none("rule 3, 4: signs 1 to 127", "[^\\x01-\\x7f]", text);
        none("one file without a package", "^package\\b.*", code);
        none("rule 4: the library", "^import (?!java\\.util\\.Arrays;).*", code);
        none("rule 4: Exact", "\\w+Exact\\b", code);
        none("rule 4: Arrays", "\\bArrays\\.(?!fill\\b|copyOf\\b|copyOfRange\\b)\\w+", code);
        none("rule 4: Integer, Math", "\\b(Integer|Math|Long)\\.(?!bitCount\\b|min\\b|max\\b|abs\\b)\\w+", code);
        none("rule 2: lambdas and references", "->|::", code);
        none("rule 6", "\\b(throw|throws|try|catch|finally|synchronized|assert|yield|var|native|volatile|strictfp)\\b", code);
        none("rule 3: no doubles here", "\\b(double|float)\\b", code);
        none("rule 13", "\\b(Thread|Random|System\\.(?!arraycopy)\\w+|Runtime)\\b", code);
        none("rule 12: objects are made once, with the object that holds them",
            "^(?! *(private )?(static )?final [^=;]+ = ).*\\bnew\\b.*", code);
        none("rule 9: loops without a bound", "while \\(true\\)|for \\(;;\\)|\\bdo \\{", code);
        none("no tests of null are needed, for no reference may be null", "\\bnull\\b", code);
        shortMethods(List.of(text.split("\n")));
        C.finish("LanguageTest");
    }
}
