import java.nio.file.Files;
import java.nio.file.Path;
import java.util.List;
import java.util.regex.Pattern;

/** Looks in the source for what LANGUAGE.md rules out, as far as a search in its text can find it. */
public final class LanguageTest {
    private static final Path SOURCE = Path.of("src/main/java/MonkMarbles.java");
    private static final String[] RULED_OUT = {
        "\\bpackage\\b", "\\bprotected\\b", "\\bfinally\\b", "\\bsynchronized\\b", "\\bassert\\b", "::", "\\bstatic \\{",
        "catch \\((Exception|Throwable|Error|NullPointer|ClassCast|NegativeArraySize|ArrayStore|ArrayIndex)", "Exact\\(",
        "\\bhashCode\\b", "\\brandom\\b", "\\bThread\\b", "\\bSystem\\.(?!arraycopy)", "[^\\n -~]",
        "import (?!java\\.util\\.(NoSuchElementException|ArrayList|List|Arrays|Iterator);)",
        "\\bstatic (?!final |class )[A-Za-z]+(\\[\\])? \\w+( =|;)", "\" \\+", "\\+ \"", "\\bwhile \\(true\\)", "for \\(;;\\)",
        "(?m)^(?! *(case|default)\\b).*->",
    };
    private static final int LONGEST_METHOD = 60;
    private static final int MOST_CLASSES = 12;

    private static int wrong;

    private static void fault(String what) {
        wrong++;
        System.out.println(what);
    }

    private static void lookForMethodsTooLong(List<String> lines) {
        int from = 0;
        Pattern head = Pattern.compile(" {4,8}[A-Za-z].*\\{");
        for (int at = 0; at < lines.size(); at++) {
            String line = lines.get(at);
            if (head.matcher(line).matches()) {
                from = at;
            }
            boolean isClass = lines.get(from).contains(" class ");
            if (line.matches(" {4,8}\\}") && !isClass && at - from > LONGEST_METHOD) {
                fault("longer than " + LONGEST_METHOD + " lines: " + lines.get(from).trim());
            }
        }
    }

    private static void lookForTooManyClasses(String code) {
        long classes = Pattern.compile("\\b(class|enum|interface|record) \\w+[^;]*?\\{").matcher(code).results().count();
        if (classes > MOST_CLASSES) {
            fault(classes + " classes");
        }
    }

    public static void main(String[] args) throws Exception {
        String whole = Files.readString(SOURCE);
        String code = whole.replaceAll("(?s)/\\*.*?\\*/", "").replaceAll("//[^\n]*", "");
        for (String form : RULED_OUT) {
            var matcher = Pattern.compile(form).matcher(code);
            if (matcher.find()) {
                fault("ruled out: " + form + " as in " + matcher.group());
            }
        }
        lookForMethodsTooLong(code.lines().toList());
        lookForTooManyClasses(code);
        System.out.println(wrong == 0 ? "no fault of language was found" : wrong + " faults of language");
        if (wrong != 0) {
            System.exit(1);
        }
    }
}
