import java.io.IOException;
import java.nio.file.Files;
import java.nio.file.Path;
import java.util.List;
import java.util.regex.Matcher;
import java.util.regex.Pattern;

/** What of ../shared/LANGUAGE.md can be seen by reading the class's lines; started from the project's folder. */
public final class LanguageTest {
    private static final String[] RULED_OUT = {
        "throw", "throws", "try", "catch", "finally", "synchronized", "assert", "yield", "var", "volatile", "native",
        "protected", "package", "transient", "goto", "strictfp",
    };
    private static final String FACE = "sheet set copy drop feed course fault need race ran place best even early hired stays"
            + " rests wins line parts hour feeling image restore kind as ask trace count status";

    public static void main(String[] args) throws IOException {
        List<String> lines = Files.readAllLines(Path.of("src/main/java/PaceStore.java"));
        String code = withoutComments(String.join("\n", lines));
        for (String word : RULED_OUT) {
            Checks.due("the word " + word, 0, timesIn(code, "\\b" + word + "\\b"));
        }
        Checks.due("lambdas, method references", 0, timesIn(code, "->|::"));
        Checks.due("Exact", 0, timesIn(code, "Exact\\b"));
        Checks.due("texts joined by +", 0, timesIn(code, "\"\\s*\\+|\\+\\s*\""));
        Checks.due("imports but Arrays, ArrayList, List", 0, timesIn(code, "import (?!java\\.util\\.(Arrays|ArrayList|List);)"));
        Checks.due("static state", 0, timesIn(code, "\\bstatic (?!final|boolean|int|void|long)"));
        Checks.due("signs beyond 126", 0, timesIn(code, "[^\\n\\x20-\\x7e]"));
        Checks.due("public methods and the constructor", 31, timesIn(code, "\\n    public [^(\\n]*\\("));
        for (String name : FACE.split(" ")) {
            Checks.due("methods called " + name, 1, timesIn(code, "\\b(int|void|boolean|long) " + name + "\\("));
        }
        Checks.due("classes", 1, timesIn(code, "\\bclass \\w+") <= 12 ? 1 : 0);
        longestMethod(lines);
        Checks.end();
    }

    private static void longestMethod(List<String> lines) {
        int begin = -1;
        String indent = "";
        for (int i = 0; i < lines.size(); i++) {
            Matcher head = Pattern.compile("^( {4}| {8})[^ /*}].*\\) \\{$").matcher(lines.get(i));
            if (begin < 0 && head.matches()) {
                begin = i;
                indent = head.group(1);
            } else if (begin >= 0 && lines.get(i).equals(indent + "}")) {
                Checks.due("at most 60 lines from line " + (begin + 1), 1, i - begin < 60 ? 1 : 0);
                begin = -1;
            }
        }
    }

    private static String withoutComments(String code) {
        return code.replaceAll("(?s)/\\*.*?\\*/", "").replaceAll("//[^\\n]*", "");
    }

    private static int timesIn(String code, String pattern) {
        int times = 0;
        Matcher m = Pattern.compile(pattern).matcher(code);
        while (m.find()) {
            times++;
        }
        return times;
    }
}
