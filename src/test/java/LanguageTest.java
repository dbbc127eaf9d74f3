import java.io.IOException;
import java.nio.file.Files;
import java.nio.file.Path;
import java.util.List;
import java.util.regex.Matcher;
import java.util.regex.Pattern;

/** The rules of LANGUAGE.md, as far as single lines of the class, or the length of a method, show a break of them. */
public final class LanguageTest {
    private static final Path SOURCE = Path.of("src/main/java/PepperboxTable.java");
    private static final int LINES_AT_MOST = 60;
    private static final int PARAMETERS_AT_MOST = 7;
    private static final int CLASSES_AT_MOST = 12;
    private static final int FIELDS_AT_MOST = 20;

    /** A rule's number and what breaks it; the class needs none of what the rules allow under a condition. */
    private static final String[][] BREAKS = {
        {"the program is without a package line and imports", "^(package|import)\\b"},
        {"1 no other visible member", "^    (?!private |public |\\w+ class |\\}|//|/\\*)\\w"},
        {"2 no lambda, no method reference, no switch with ->", "->|::"},
        {"3 the class needs no types of the library but String", "\\b(List|Map|Set|Object|Integer\\[|BigInteger|var)\\b"},
        {"4 the library: Math without the exact ones, and over whole numbers", "Exact\\(|Math\\.(sqrt|pow|random|round)"},
        {"4 no output, no machine", "\\bSystem\\.(?!arraycopy\\()"},
        {"5 static fields are final", "^\\s*(private )?static (?!final\\b)[^(]*[;=]"},
        {"5 no static initialiser block", "^\\s*static \\{"},
        {"6 the class needs no try", "\\b(try|catch|finally)\\b"},
        {"6 a written text or none",
            "\\bthrow (?!new (IllegalState|IllegalArgument|IndexOutOfBounds)Exception\\((\"[^\"]*\")?\\);)"},
        {"6 no such words", "\\b(synchronized|assert|instanceof|volatile|native|transient)\\b"},
        {"6 no equals, hashCode, toString of own objects", "\\b(equals|hashCode|toString)\\("},
        {"10 texts are not joined by +", "\"\\s*\\+|\\+\\s*\""},
        {"13 no clock, randomness, thread", "\\b(Random|Thread|Clock|Runtime|Process|File|nanoTime)\\b"},
    };
    private static final Pattern METHOD =
            Pattern.compile("^( {4}| {8})(?:(?:public|private|static) )*\\w+(?:\\[\\])* \\w+\\((.*)\\).*\\{$");
    private static final Pattern CLASS = Pattern.compile("^( *)(?:(?:public|private|static|final) )*class (\\w+)");
    private static final Pattern FIELD =
            Pattern.compile("^( {4}| {8})(?!.*\\bstatic\\b)(?:(?:private|final) )+[\\w\\[\\]]+ \\w+( = .*)?;$");

    public static void main(String[] args) throws IOException {
        List<String> lines = Files.readAllLines(SOURCE);
        for (int k = 0; k < lines.size(); k++) {
            isAllowed(k + 1, lines.get(k));
        }
        methods(lines);
        classes(lines);
        Due.end("LanguageTest");
    }

    private static boolean isComment(String line) {
        String text = line.strip();
        return text.startsWith("//") || text.startsWith("/*") || text.startsWith("*");
    }

    private static void isAllowed(int number, String line) {
        if (isComment(line)) {
            return;
        }
        for (String[] rule : BREAKS) {
            if (Pattern.compile(rule[1]).matcher(line).find()) {
                Due.wrong("line " + number, "breaks \"" + rule[0] + "\": " + line.strip());
            }
        }
    }

    private static void methods(List<String> lines) {
        int found = 0;
        for (int k = 0; k < lines.size(); k++) {
            Matcher method = METHOD.matcher(lines.get(k));
            if (!method.find()) {
                continue;
            }
            found++;
            int end = k;
            while (end < lines.size() && !lines.get(end).equals(method.group(1) + "}")) {
                end++;
            }
            Due.is("11 a short method: " + lines.get(k).strip(), true, end - k + 1 <= LINES_AT_MOST);
            Due.is("11 few parameters: " + lines.get(k).strip(), true,
                    method.group(2).split(",").length <= PARAMETERS_AT_MOST);
        }
        Due.is("the methods were found", true, found > PepperboxTable.class.getDeclaredMethods().length);
    }

    private static void classes(List<String> lines) {
        int classes = 0;
        int fields = 0;
        for (String line : lines) {
            if (CLASS.matcher(line).find()) {
                classes++;
                fields = 0;
            } else if (FIELD.matcher(line).find()) {
                fields++;
                Due.is("11 few fields: " + line.strip(), true, fields <= FIELDS_AT_MOST);
            }
        }
        Due.is("11 few classes", true, classes >= 1 && classes <= CLASSES_AT_MOST);
    }
}
