import java.io.IOException;
import java.nio.file.Files;
import java.nio.file.Path;
import java.util.regex.Matcher;
import java.util.regex.Pattern;

/** Rules of the language that a look at the source can tell; .ci/run starts it at the root. */
final class LanguageTest {
    private static final String[] RULED_OUT = {
        "\\bthrow\\b", "\\bthrows\\b", "\\btry\\b", "\\bcatch\\b", "\\bsynchronized\\b",
        "\\bassert\\b", "\\bimport\\b", "\\bpackage\\b", "->", "::", "\\bequals\\b",
        "\\bhashCode\\b", "\\btoString\\b", "\\bSystem\\.(?!arraycopy)", "Exact\\b",
        "\\bThread\\b", "\\bRandom\\b", "\\bvolatile\\b", "\\bprotected\\b", "\\bstatic\\s*\\{",
        "[^\\x00-\\x7f]"};

    public static void main(String[] args) throws IOException {
        String source = Files.readString(Path.of("src/main/java/LimitBank.java"));
        String bare = source.replaceAll("(?s)/\\*.*?\\*/", "").replaceAll("//[^\n]*", "");
        for (String each : RULED_OUT) {
            Matcher found = Pattern.compile(each).matcher(bare);
            Check.due(each + " in the source", found.find() ? 1 : 0, 0);
        }
        Check.due("non-ASCII signs in comments", source.matches("(?s)[\\x00-\\x7f]*") ? 1 : 0, 1);
        objectsAreMadeInConstructorsAlone(bare);
        methodsAreShort(source);
        Check.end("LanguageTest");
    }

    /** The room of a run is small, so no call may make an object. */
    private static void objectsAreMadeInConstructorsAlone(String bare) {
        Matcher made = Pattern.compile("(?m)^(.*)\\bnew\\b").matcher(bare);
        int places = 0;
        while (made.find()) {
            places++;
            String before = made.group(1);
            boolean fieldOrConstructor = before.matches(".*\\bfinal [\\w\\[\\]]+ \\w+ = ")
                    || before.matches(" +[\\w\\[\\]]+ = ");
            Check.due("'new' behind \"" + before + "\"", fieldOrConstructor ? 1 : 0, 1);
        }
        Check.due("places with new", places > 5 ? 1 : 0, 1);
    }

    private static void methodsAreShort(String source) {
        String[] lines = source.split("\n");
        for (int start = 0; start < lines.length; start++) {
            if (lines[start].matches("( {4}| {8})\\S.*\\(.*\\{")) {
                String indent = lines[start].replaceAll("\\S.*", "");
                int end = start + 1;
                while (end < lines.length && !lines[end].startsWith(indent + "}")) {
                    end++;
                }
                Check.due("a block of sixty lines at " + (start + 1), end - start <= 60 ? 1 : 0, 1);
            }
        }
    }
}
