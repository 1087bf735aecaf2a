import java.nio.file.Files;
import java.nio.file.Path;
import java.util.regex.Matcher;
import java.util.regex.Pattern;

/** The rules of LANGUAGE.md that can be read from the text of the class alone. */
public final class RulesTest {
    private static final String[] FORBIDDEN = {"\\bthrow\\b", "\\bthrows\\b", "\\btry\\b", "\\bcatch\\b", "\\bassert\\b",
        "\\bsynchronized\\b", "->", "::", "^import\\b", "^package\\b", "@", "\\.equals\\(", "\\bhashCode\\b", "\\btoString\\b",
        "\\bprotected\\b", "\\bvolatile\\b", "\\bnull\\b", "\\bMap\\b", "\\bSystem\\.(?!arraycopy)", "Exact\\b", "[^\\x00-\\x7f]",
        "\\bstatic (?!final|class)\\w+(\\[\\])* \\w+( =|;)", "\\bwhile\\b", "\" \\+|\\+ \""};

    private static String withoutComments(String text) {
        return text.replaceAll("(?s)/\\*.*?\\*/", "").replaceAll("//[^\n]*", "");
    }

    private static int lines(String text) {
        return text.split("\n", -1).length;
    }

    private static void methodsAreShort(String source) {
        Pattern method = Pattern.compile("(?m)^( {4}| {8})(?! |static final class|private static final class)"
                + "[\\w\\[\\] ]*?(\\w+)\\(([^)]*)\\) \\{\n(?s:.*?)\n\\1\\}");
        Matcher m = method.matcher(source);
        int count = 0;
        while (m.find()) {
            count++;
            Check.due(m.group(2) + " has at most 60 lines", lines(m.group()) <= 60, true);
            Check.due(m.group(2) + " takes at most 7", m.group(3).split(",").length <= 7, true);
        }
        Check.due("methods are found", count > 100, true);
    }

    public static void main(String[] args) throws Exception {
        String source = withoutComments(Files.readString(Path.of("src/main/java/FuneralPost.java")));
        for (String word : FORBIDDEN) {
            Matcher m = Pattern.compile(word, Pattern.MULTILINE).matcher(source);
            Check.due(word + " is in the class", m.find(), false);
        }
        int classes = source.split("\\bclass \\w+ \\{", -1).length - 1;
        Check.due("twelve classes at most: " + classes, classes <= 12, true);
        methodsAreShort(source);
        Check.finish();
    }
}
