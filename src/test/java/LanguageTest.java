import java.nio.file.Files;
import java.nio.file.Path;
import java.util.List;
import java.util.regex.Matcher;
import java.util.regex.Pattern;

/** What of LANGUAGE.md can be seen from the source's text alone: signs and words that it does not have, and lengths. */
public final class LanguageTest {
    private static final String SOURCE = "src/main/java/SlotConference.java";
    private static final String[] BARRED = {
        "->", "::", "\\bimport\\b", "\\bpackage\\b", "\\bfinally\\b", "\\bcatch\\b", "\\btry\\b", "\\bsynchronized\\b",
        "\\bassert\\b", "\\bstatic \\{", "Exact\\(", "\\bprotected\\b", "\\bObject\\b", "\\bSystem\\.(?!arraycopy)",
        "\\bRandom\\b", "\\bThread\\b", "\\bequals\\(", "\\bhashCode\\(", "\\btoString\\(", "\" \\+", "\\+ \"",
        "[^\\x00-\\x7f]"
    };
    private static final Pattern THROWN = Pattern.compile(
            "throw new (IndexOutOfBounds|IllegalArgument|IllegalState)Exception\\(\"[^\"]+\"\\);");
    private static final Pattern METHOD = Pattern.compile("^ {4,8}(?:[\\w.<>\\[\\]]+ )+(\\w+)\\(([^)]*)\\)(?: \\{|$)");
    private static final int MOST_LINES = 60;
    private static final int MOST_PARAMETERS = 7;

    public static void main(String[] args) throws Exception {
        List<String> lines = Files.readAllLines(Path.of(SOURCE));
        for (int i = 0; i < lines.size(); i++) {
            words(i + 1, lines.get(i));
        }
        methods(lines);
        Check.finish();
    }

    private static void words(int number, String line) {
        for (String barred : BARRED) {
            Check.due("line " + number + " has " + barred, Pattern.compile(barred).matcher(line).find(), false);
        }
        if (line.contains("throw ")) {
            Check.due("line " + number + " throws as rule 6 says", THROWN.matcher(line).find(), true);
        }
    }

    private static void methods(List<String> lines) {
        int found = 0;
        for (int i = 0; i < lines.size(); i++) {
            Matcher head = METHOD.matcher(lines.get(i));
            if (!head.find() || lines.get(i).trim().startsWith("return ")) {
                continue;
            }
            found++;
            String name = head.group(1);
            int parameters = head.group(2).isEmpty() ? 0 : head.group(2).split(",").length;
            // The face itself gives request nine.
            Check.due("parameters of " + name, parameters <= MOST_PARAMETERS || name.equals("request"), true);
            String end = lines.get(i).replaceAll("\\S.*", "") + "}";
            int last = i;
            while (last < lines.size() && !lines.get(last).equals(end)) {
                last++;
            }
            Check.due("lines of " + name, last - i <= MOST_LINES, true);
        }
        Check.due("methods are found", found >= 27, true);
    }
}
