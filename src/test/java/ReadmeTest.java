import java.io.IOException;
import java.lang.reflect.Method;
import java.lang.reflect.Modifier;
import java.net.URL;
import java.net.URLClassLoader;
import java.nio.file.Files;
import java.nio.file.Path;
import java.util.function.BiConsumer;
import java.util.regex.Matcher;
import java.util.regex.Pattern;
import javax.tools.ToolProvider;

/** The Java on the page README.md compiles as it stands, and answers what the page says. */
public final class ReadmeTest {
    private static final Pattern BLOCK = Pattern.compile("```java\n(.*?)```", Pattern.DOTALL);
    private static final Pattern ANSWERED = Pattern.compile("(?m)^(town\\..*\\));\\s*// (-?\\d+|true|false)\\b.*$");

    public static void main(String[] args) throws IOException, ReflectiveOperationException {
        String page = Files.readString(Path.of("README.md"));
        answersAsThePageSays(page);
        everyCallIsOnThePage(page);
        Check.end("ReadmeTest");
    }

    private static void answersAsThePageSays(String page) throws IOException, ReflectiveOperationException {
        StringBuilder methods = new StringBuilder();
        StringBuilder lines = new StringBuilder();
        Matcher block = BLOCK.matcher(page);
        while (block.find()) {
            (block.group(1).startsWith("static ") ? methods : lines).append(block.group(1));
        }
        Matcher answered = ANSWERED.matcher(lines);
        Check.due("the page has calls with answers", answered.results().count() >= 20, true);
        String tried = answered.replaceAll(line -> Matcher.quoteReplacement(
                "asked.accept(" + quoted(line.group(1)) + ", new Object[] {" + line.group(1) + ", " + line.group(2) + "});"));
        runPage("import java.util.function.BiConsumer;\npublic final class Page {\n" + methods
                + "public static void main(BiConsumer<String, Object[]> asked) {\n" + tried + "}\n}\n");
    }

    private static String quoted(String text) {
        return '"' + text.replace("\"", "'") + '"';
    }

    private static void runPage(String source) throws IOException, ReflectiveOperationException {
        Path folder = Files.createTempDirectory("readme");
        Path file = folder.resolve("Page.java");
        Files.writeString(file, source);
        int compiled = ToolProvider.getSystemJavaCompiler().run(null, null, null,
                "-cp", System.getProperty("java.class.path"), "-d", folder.toString(), file.toString());
        Check.due("the page compiles", compiled, 0);
        if (compiled == 0) {
            try (URLClassLoader loader = new URLClassLoader(new URL[] {folder.toUri().toURL()})) {
                Method main = loader.loadClass("Page").getMethod("main", BiConsumer.class);
                BiConsumer<String, Object[]> asked = ReadmeTest::compare;
                main.invoke(null, asked);
            }
        }
        for (String name : new String[] {"Page.java", "Page.class"}) {
            Files.deleteIfExists(folder.resolve(name));
        }
        Files.delete(folder);
    }

    private static void compare(String call, Object[] gotAndDue) {
        Check.due("README.md: " + call, asNumber(gotAndDue[0]), asNumber(gotAndDue[1]));
    }

    private static long asNumber(Object answer) {
        return answer instanceof Boolean is ? (is ? 1 : 0) : ((Number) answer).longValue();
    }

    private static void everyCallIsOnThePage(String page) {
        for (Method call : VaneTown.class.getDeclaredMethods()) {
            if (Modifier.isPublic(call.getModifiers())) {
                Check.due("README.md names " + call.getName(), page.contains("`" + call.getName() + "`"), true);
            }
        }
    }
}
