import java.io.IOException;
import java.nio.file.Files;
import java.nio.file.Path;
import java.util.regex.Matcher;
import java.util.regex.Pattern;

/** Rules of LANGUAGE.md that can be read off the source. It is run in the project's folder. */
public final class RulesTest {
    private static final String[] BANNED = {"import", "package", "try", "catch", "finally", "synchronized", "assert",
        "protected", "instanceof", "System\\.(?!arraycopy)", "->", "::", "Exact", "var", "hashCode", "toString",
        "equals", "Integer\\.", "Long\\.", "double", "float", "static\\s*\\{"};

    public static void main(String[] args) throws IOException {
        String source = Files.readString(Path.of("src/main/java/WinterRoad.java"));
        String code = source.replaceAll("(?s)/\\*.*?\\*/", "").replaceAll("//[^\n]*", "")
                .replaceAll("\"[^\"\n]*\"", "\"\"");
        for (String banned : BANNED) {
            String word = banned.matches("\\w+") && !banned.equals("Exact") ? "\\b" + banned + "\\b" : banned;
            Check.due("uses of " + banned, count(code, word), 0);
        }
        Check.due("signs beyond 127", count(source, "[^\\x00-\\x7f]"), 0);
        Check.due("static fields that are not final", count(code, "static (?!final|class)\\w+ \\w+( =|;)"), 0);
        Check.due("classes, at most 12", count(code, "\\b(class|enum|interface|record) \\w+") <= 12 ? 1 : 0, 1);
        Check.due("longest method, at most 60 lines", longestMethod(code) <= 60 ? 1 : 0, 1);
        Check.due("methods with more than seven parameters", count(code, "\\w+ \\w+\\(\\w+ \\w+(, \\w+ \\w+){7,}\\)"), 0);
        Check.end();
    }

    private static int count(String code, String pattern) {
        Matcher m = Pattern.compile(pattern).matcher(code);
        int many = 0;
        while (m.find()) {
            many++;
        }
        return many;
    }

    /** A method begins with a line of 4 or 8 blanks that opens a brace, and ends with its brace. */
    private static int longestMethod(String code) {
        int longest = 0;
        Matcher m = Pattern.compile("(?m)^( {4}| {8})\\S[^\n;=]*\\)[^\n;]*\\{\n((.*\n)*?)\\1\\}$").matcher(code);
        while (m.find()) {
            longest = Math.max(longest, count(m.group(2), "\n"));
        }
        return longest == 0 ? Integer.MAX_VALUE : longest;
    }
}
