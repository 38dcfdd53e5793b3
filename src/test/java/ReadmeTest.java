import java.lang.reflect.Method;
import java.lang.reflect.Modifier;
import java.net.URL;
import java.net.URLClassLoader;
import java.nio.file.Files;
import java.nio.file.Path;
import java.util.ArrayList;
import java.util.List;
import java.util.regex.Matcher;
import java.util.regex.Pattern;
import javax.tools.ToolProvider;

/** README.md names every call, and its example answers as its comments say. */
final class ReadmeTest {
    private static final Pattern EXAMPLE = Pattern.compile("(?s)```java\n(.*?)```");
    private static final Pattern ANSWERED =
            Pattern.compile("(?m)^(?:int (\\w+) = )?(bank\\..*\\)); +// (-?\\d+|[A-Z]+)\\b.*$");

    private final List<String> calls = new ArrayList<>();
    private final List<Long> wanted = new ArrayList<>();

    public static void main(String[] args) throws Exception {
        String readme = Files.readString(Path.of("README.md"));
        for (Method each : LimitBank.class.getDeclaredMethods()) {
            if (Modifier.isPublic(each.getModifiers())) {
                String name = "`" + each.getName() + "`";
                Check.due("README.md names " + name, readme.contains(name) ? 1 : 0, 1);
            }
        }
        Matcher example = EXAMPLE.matcher(readme);
        boolean found = example.find();
        Check.due("README.md has an example", found ? 1 : 0, 1);
        if (found) {
            new ReadmeTest().check(example.group(1));
        }
        Check.end("ReadmeTest");
    }

    private void check(String example) throws Exception {
        String body = withAnswersKept(example);
        long[] got = answersOf("public final class Example {\n"
                + "public static long[] answers() {\nlong[] got = new long[" + calls.size() + "];\n" + body + "return got;\n}\n}\n");
        Check.due("calls with an answer", got.length > 10 ? 1 : 0, 1);
        for (int i = 0; i < got.length; i++) {
            Check.due("README.md, " + calls.get(i), got[i], wanted.get(i));
        }
    }

    private String withAnswersKept(String example) throws Exception {
        Matcher answered = ANSWERED.matcher(example);
        StringBuilder body = new StringBuilder();
        while (answered.find()) {
            String keep = "got[" + calls.size() + "] = ";
            calls.add(answered.group(2));
            wanted.add(number(answered.group(3)));
            String name = answered.group(1);
            String line = name == null ? keep + answered.group(2) + ";"
                    : "int " + name + " = " + answered.group(2) + ";\n" + keep + name + ";";
            answered.appendReplacement(body, Matcher.quoteReplacement(line));
        }
        return answered.appendTail(body).toString();
    }

    private static long number(String answer) throws Exception {
        return Character.isLetter(answer.charAt(0))
                ? LimitBank.class.getField(answer).getInt(null) : Long.parseLong(answer);
    }

    private static long[] answersOf(String source) throws Exception {
        Path folder = Files.createTempDirectory("readme");
        Path file = folder.resolve("Example.java");
        try {
            Files.writeString(file, source);
            int failed = ToolProvider.getSystemJavaCompiler().run(null, null, null, "-cp",
                    System.getProperty("java.class.path"), "-d", folder.toString(),
                    file.toString());
            Check.due("errors of javac", failed, 0);
            URL[] places = {folder.toUri().toURL()};
            try (URLClassLoader loader = new URLClassLoader(places)) {
                return (long[]) loader.loadClass("Example").getMethod("answers").invoke(null);
            }
        } finally {
            Files.deleteIfExists(file);
            Files.deleteIfExists(folder.resolve("Example.class"));
            Files.deleteIfExists(folder);
        }
    }
}
