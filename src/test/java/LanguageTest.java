import java.io.IOException;
import java.nio.file.Files;
import java.nio.file.Path;
import java.util.List;
import java.util.regex.Matcher;
import java.util.regex.Pattern;

/** Rules of LANGUAGE.md that can be seen in the source alone. The argument is the project's directory. */
public final class LanguageTest {
    private static final Due DUE = new Due("LanguageTest");
    private static final String[] FORBIDDEN = {
        "^package\\b", "->", "::", "\\bfinally\\b", "\\bsynchronized\\b", "\\bassert\\b", "\\bcatch\\b", "\\btry\\b",
        "\\bprotected\\b", "Exact\\b", "\\bSystem\\.(?!arraycopy)", "\\bThread\\b", "\\bRandom\\b", "\\bMap\\b",
        "\\bObject\\b", "\\bvar\\b", "\\bgetMessage\\b", "\\bhashCode\\b", "\\btoString\\b", "\\binstanceof\\b",
        "\\bstatic \\{", "\\bdouble\\b", "\\bfloat\\b", "\\[\\]\\[\\]\\[\\]", "\\bnew [a-z]+\\[\\]\\[",
    };

    public static void main(String[] args) throws IOException {
        Path root = Path.of(args.length > 0 ? args[0] : ".");
        Path file = root.resolve("src/main/java/LineChoice.java");
        String source = Files.readString(file);
        List<String> lines = Files.readAllLines(file);
        String code = source.replaceAll("(?s)/\\*.*?\\*/", "").replaceAll("//[^\n]*", "");
        for (String word : FORBIDDEN) {
            DUE.is("'" + word + "' stands there", Pattern.compile(word, Pattern.MULTILINE).matcher(code).find(), false);
        }
        Matcher imports = Pattern.compile("(?m)^import .*$").matcher(code);
        while (imports.find()) {
            DUE.is("import", imports.group(), "import java.util.NoSuchElementException;");
        }
        Matcher thrown = Pattern.compile("\\bthrow\\b").matcher(code);
        int throwsFound = 0;
        while (thrown.find()) {
            throwsFound++;
        }
        DUE.is("throw statements (row alone throws)", throwsFound, 1);
        DUE.is("signs 1 to 127 alone", source.chars().allMatch(c -> c > 0 && c < 128), true);
        statics(code);
        methods(lines);
        try (var files = Files.list(file.getParent())) {
            DUE.is("files", files.count(), 1L);
        }
        DUE.close();
    }

    private static void statics(String code) {
        Matcher m = Pattern.compile("(?m)^\\s*(?:public|private)? ?static (?!final)(\\S+) (\\w+) *[=;]").matcher(code);
        while (m.find()) {
            DUE.is("static field " + m.group(2) + " is final", false, true);
        }
        Matcher classes = Pattern.compile("\\b(class|enum|record|interface) \\w+").matcher(code);
        int n = 0;
        while (classes.find()) {
            n++;
        }
        DUE.is("classes are twelve at most", n <= 12, true);
    }

    /** Methods of at most sixty lines and seven parameters, by their braces and indents. */
    private static void methods(List<String> lines) {
        String noMethod = "(?!if|for|while|switch|else|return)";
        Pattern head = Pattern.compile("^( ++)" + noMethod + "[\\w\\[\\] ]+\\(([^()]*)\\)[^;=]*\\{$");
        for (int i = 0; i < lines.size(); i++) {
            Matcher m = head.matcher(lines.get(i));
            if (m.matches()) {
                int end = i;
                while (end < lines.size() && !lines.get(end).equals(m.group(1) + "}")) {
                    end++;
                }
                DUE.is("length of " + lines.get(i).trim(), end - i < 60, true);
                DUE.is("parameters of " + lines.get(i).trim(), m.group(2).split(",").length <= 7, true);
            }
        }
    }
}
