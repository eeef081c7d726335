import java.lang.reflect.Field;
import java.lang.reflect.Modifier;
import java.nio.file.Files;
import java.nio.file.Path;
import java.util.List;
import java.util.regex.Matcher;
import java.util.regex.Pattern;

/** What of LANGUAGE.md can be seen from the source's text and the classes' members: words, throws, lengths, numbers. */
public final class LanguageTest {
    private static final String SOURCE = "src/main/java/SlotConference.java";
    private static final String[] BARRED = {
        "->", "::", "\\bimport\\b", "\\bpackage\\b", "\\bfinally\\b", "\\bcatch\\b", "\\btry\\b", "\\bsynchronized\\b",
        "\\bassert\\b", "\\bstatic \\{", "Exact\\(", "\\bprotected\\b", "\\bObject\\b", "\\bSystem\\.(?!arraycopy)",
        "\\bRandom\\b", "\\bThread\\b", "\\bequals\\(", "\\bhashCode\\(", "\\btoString\\(", "\" \\+", "\\+ \"",
        "[^\\x00-\\x7f]"
    };
    private static final Pattern THROWN = Pattern.compile(
            "throw new (IndexOutOfBounds|IllegalArgument|IllegalState)Exception\\(\"[^\"]+\"\\);");
    private static final Pattern METHOD = Pattern.compile("^ {4,8}(?:[\\w.<>\\[\\]]+ )+(\\w+)\\(([^)]*)\\)(?: \\{|$)");
    /** Rows are made in fields and constructors; what else is made is thrown. */
    private static final Pattern MADE = Pattern.compile(
            "throw new |^ {4,8}(private )?final \\w+\\[\\] \\w+ = new |^ {12,16}\\w+\\[i\\] = new \\w+\\(\\);");
    private static final int MOST_LINES = 60;
    private static final int MOST_PARAMETERS = 7;
    private static final int MOST_CLASSES = 12;
    private static final int MOST_FIELDS = 20;

    public static void main(String[] args) throws Exception {
        List<String> lines = Files.readAllLines(Path.of(SOURCE));
        for (int i = 0; i < lines.size(); i++) {
            words(i + 1, lines.get(i));
        }
        methods(lines);
        classes();
        Check.finish();
    }

    private static void words(int number, String line) {
        for (String barred : BARRED) {
            Check.due("line " + number + " has " + barred, Pattern.compile(barred).matcher(line).find(), false);
        }
        if (line.contains("throw ")) {
            Check.due("line " + number + " throws as rule 6 says", THROWN.matcher(line).find(), true);
        }
        if (line.contains("new ") && !line.contains("/**")) {
            Check.due("line " + number + " makes what is kept or thrown", MADE.matcher(line).find(), true);
        }
    }

    private static void methods(List<String> lines) {
        int found = 0;
        for (int i = 0; i < lines.size(); i++) {
            Matcher head = METHOD.matcher(lines.get(i));
            if (!head.find() || lines.get(i).trim().startsWith("return ")) {
                continue;
            }
            found++;
            String name = head.group(1);
            int parameters = head.group(2).isEmpty() ? 0 : head.group(2).split(",").length;
            // The face itself gives request nine.
            Check.due("parameters of " + name, parameters <= MOST_PARAMETERS || name.equals("request"), true);
            String end = lines.get(i).replaceAll("\\S.*", "") + "}";
            int last = i;
            while (last < lines.size() && !lines.get(last).equals(end)) {
                last++;
            }
            Check.due("lines of " + name, last - i <= MOST_LINES, true);
        }
        Check.due("methods are found", found >= 27, true);
    }

    private static void classes() {
        Class<?>[] inside = SlotConference.class.getDeclaredClasses();
        Check.due("classes", inside.length < MOST_CLASSES, true);
        fields(SlotConference.class);
        for (Class<?> each : inside) {
            int bits = each.getModifiers();
            Check.due(each + " is static", Modifier.isStatic(bits), true);
            Check.due(each + " is hidden", Modifier.isPublic(bits) || Modifier.isProtected(bits), false);
            fields(each);
        }
    }

    private static void fields(Class<?> type) {
        int own = 0;
        for (Field each : type.getDeclaredFields()) {
            int bits = each.getModifiers();
            own += Modifier.isStatic(bits) ? 0 : 1;
            Check.due("static " + each + " is a constant", !Modifier.isStatic(bits) || Modifier.isFinal(bits), true);
        }
        Check.due("fields of " + type, own <= MOST_FIELDS, true);
    }
}
