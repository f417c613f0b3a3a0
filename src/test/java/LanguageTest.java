import java.io.IOException;
import java.nio.file.Files;
import java.nio.file.Path;
import java.util.List;
import java.util.regex.Matcher;
import java.util.regex.Pattern;

/** The rules of LANGUAGE.md that can be seen in the text of ForceNet.java. Run where src is. */
final class LanguageTest {
    private static final Check C = new Check("language");
    private static final String FACE = "net moves joint step leads letters heap price steps type form holds part force round plan answer toll walk walked"
        + " blind blindMove choose lot chance goal content stable settle helpers count sheet drop item copy";

    public static void main(String[] args) throws IOException {
        List<String> lines = Files.readAllLines(Path.of("src/main/java/ForceNet.java"));
        StringBuilder code = new StringBuilder();
        for (String line : lines) {
            C.due("signs of " + line, line.chars().allMatch(sign -> sign >= 32 && sign < 127) ? 1 : 0, 1);
            code.append(line.replaceAll("//.*|/\\*\\*.*\\*/", "")).append('\n');
        }
        String text = code.toString();
        without(text);
        members(text);
        methods(text);
        C.end();
    }

    private static int count(String text, String pattern) {
        Matcher matcher = Pattern.compile(pattern).matcher(text);
        int found = 0;
        while (matcher.find()) {
            found++;
        }
        return found;
    }

    private static void without(String text) {
        String[] never = {"->", "::", "\\bthrows?\\b", "\\btry\\b", "\\bcatch\\b", "\\bfinally\\b", "\\bsynchronized\\b", "\\bassert\\b", "\\bvar\\b",
            "\\bpackage\\b", "\\bprotected\\b", "\\bstatic \\{", "\\bObject\\b", "\\bSystem\\.(?!arraycopy)", "\\w+Exact\\(", "\"", "\\bnull\\b", "\\binstanceof\\b",
            "\\bwhile \\(true", "for \\(;;", "\\bhashCode\\b", "\\bequals\\b", "\\btoString\\b", "Math\\.(?!min|max)", "Integer\\.(?!bitCount)"};
        for (String pattern : never) {
            C.due("none of " + pattern, count(text, pattern), 0);
        }
        C.due("imports", count(text, "\\bimport\\b"), 1);
        C.due("the import", count(text, "import java\\.util\\.Arrays;"), 1);
        C.due("classes inside", count(text, "private static final class \\w+ \\{"), count(text, "\\bclass\\b") - 1);
        C.due("at most twelve classes", count(text, "\\bclass\\b") <= 12 ? 1 : 0, 1);
        // Arrays are made with the object alone; the machine looks at each index only behind a test: so [ ] are few.
        C.due("indexes", count(text, "\\w\\[[^\\]]"), count(text, "new (int|long)\\[") + 4);
    }

    private static void members(String text) {
        int face = FACE.split(" ").length;
        C.due("public ones: the class, constants, the constructor, methods", count(text, "\\bpublic\\b"), 3 + face);
        for (String name : FACE.split(" ")) {
            C.due("one method " + name, count(text, "(?m)^ +(private |public |static )*(int|long|void|boolean) " + name + "\\("), 1);
        }
    }

    /** Methods of at most sixty lines and seven parameters. */
    private static void methods(String text) {
        String[] lines = text.split("\n");
        int start = -1;
        String end = "";
        for (int i = 0; i < lines.length; i++) {
            Matcher head = Pattern.compile("^( +)(?!return|else|if|for|while|switch)[\\w ]*\\w\\(([^)]*)\\) \\{$").matcher(lines[i]);
            if (head.matches() && start < 0) {
                start = i;
                end = head.group(1) + "}";
                C.due("parameters of " + lines[i], head.group(2).split(",").length <= 7 ? 1 : 0, 1);
            } else if (start >= 0 && lines[i].equals(end)) {
                C.due("lines of " + lines[start], i - start < 60 ? 1 : 0, 1);
                start = -1;
            }
        }
    }
}
