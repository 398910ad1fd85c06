import java.io.IOException;
import java.nio.file.Files;
import java.nio.file.Path;
import java.util.regex.Matcher;
import java.util.regex.Pattern;

/** The rules of ../shared/LANGUAGE.md that show in the words of the source alone. */
public final class LanguageTest {
    public static void main(String[] args) throws IOException {
        Check check = new Check();
        String source = Files.readString(Path.of("src/main/java/TreatyHouse.java"));
        String code = source.replaceAll("(?s)/\\*.*?\\*/", "").replaceAll("//[^\n]*", "");
        String[] banned = {"\\b(throw|throws|try|catch|synchronized|assert|import|package|native|volatile)\\b",
            "->", "::", "\"", "@", "\\bExact\\b", "\\b(equals|hashCode|toString)\\b", "\\bObject\\b",
            "\\bstatic\\s*\\{", "\\bnew\\s+\\w+\\s*\\([^)]*\\)\\s*\\{"};
        for (String words : banned) {
            Matcher matcher = Pattern.compile(words).matcher(code);
            check.due("the source has " + words, matcher.find(), false);
        }
        Matcher nested = Pattern.compile("(?m)^ +(?:\\w+ +)*class\\b").matcher(code);
        int classes = 0;
        while (nested.find()) {
            classes++;
            check.due("11 and 2: " + nested.group().trim(), nested.group().contains(" static "), true);
        }
        check.due("11: at most twelve classes", classes > 0 && classes < 12, true);
        check.due("3: characters 0 to 255 alone", source.chars().allMatch(LanguageTest::isPlain), true);
        check.end();
    }

    private static boolean isPlain(int character) {
        return character < 256;
    }
}
