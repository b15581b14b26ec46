import java.io.IOException;
import java.nio.file.Files;
import java.nio.file.Path;
import java.util.regex.Matcher;
import java.util.regex.Pattern;

/** Words and signs that LANGUAGE.md rules out, and the length of the methods. */
public final class LanguageTest {
    private static final String PROGRAM = "src/main/java/WalkFrames.java";
    private static final String[] RULED_OUT = {"\\bpackage\\b", "\\bimport\\b", "\\bthrow\\b", "\\bthrows\\b", "\\btry\\b",
        "\\bcatch\\b", "\\bfinally\\b", "\\bsynchronized\\b", "\\bvolatile\\b", "\\btransient\\b", "\\bnative\\b",
        "\\bassert\\b", "\\bprotected\\b", "\\bdefault\\s+\\w+\\s*\\(", "->", "::", "\\bstatic\\s*\\{", "\\bvar\\b",
        "\\bObject\\b", "\\bstrictfp\\b", "\\bequals\\b", "\\bhashCode\\b", "\\btoString\\b", "\\bThread\\b", "\\bSystem\\.(?!arraycopy)",
        "\\w+Exact\\b", "\\bjava\\.", "@"};

    private LanguageTest() {
    }

    public static void main(String[] args) throws IOException {
        Check c = new Check("LanguageTest");
        String whole = Files.readString(Path.of(PROGRAM));
        String code = whole.replaceAll("(?s)/\\*.*?\\*/", "").replaceAll("//[^\n]*", "");
        for (String word : RULED_OUT) {
            Matcher matcher = Pattern.compile(word).matcher(code);
            c.same("ruled out: " + word, matcher.find() ? matcher.group() : "", "");
        }
        for (int i = 0; i < whole.length(); i++) {
            char sign = whole.charAt(i);
            if (sign > 126) {
                c.due("sign at " + i, sign, 0);
            }
        }
        lengths(c, code);
        c.end();
    }

    /** A method starts with a head that ends in "{" and ends with a "}" that stands as far in. */
    private static void lengths(Check c, String code) {
        String[] lines = code.split("\n");
        Pattern head = Pattern.compile("( {4}| {8})[\\w].*\\(.*\\) \\{|( {4}| {8})(public|private|int|void|boolean) .*\\($");
        for (int i = 0; i < lines.length; i++) {
            Matcher matcher = head.matcher(lines[i]);
            if (!matcher.matches()) {
                continue;
            }
            String indent = lines[i].substring(0, lines[i].length() - lines[i].stripLeading().length());
            int end = i;
            while (end < lines.length - 1 && !lines[end].equals(indent + "}")) {
                end++;
            }
            c.due("a short method at " + lines[i].strip(), end - i < 60 ? 1 : 0, 1);
            int arguments = lines[i].split(",").length;
            c.due("few arguments at " + lines[i].strip(), arguments <= 7 ? 1 : 0, 1);
        }
    }
}
