import java.io.IOException;
import java.nio.file.Files;
import java.nio.file.Path;
import java.util.HashMap;
import java.util.List;
import java.util.Map;
import java.util.TreeSet;
import java.util.regex.Matcher;
import java.util.regex.Pattern;

/** What of ../shared/LANGUAGE.md can be seen from the source's own lines. */
public final class LanguageTest {
    private static final String[] FORBIDDEN = {"\\bthrow\\b", "\\btry\\b", "\\bcatch\\b", "\\bsynchronized\\b",
        "\\bassert\\b", "->", "::", "\\bimport\\b", "\\bpackage\\b", "Exact\\(", "static \\{", "\\bprotected\\b",
        "\\bThread\\b", "\\bRandom\\b", "\\bdouble\\b", "\\bfloat\\b", "\\bObject\\b", "\\bvolatile\\b", "\\brecord\\b",
        "\\bvar\\b", "while \\(true\\)", "for \\(;;\\)", "\\[\\]\\[\\]", "System\\.(?!arraycopy)", "\\.equals\\("};
    private static final Pattern METHOD =
            Pattern.compile("^( {4}| {8})(?:(?:public|private|static|final) )*[\\w\\[\\]]+ (\\w+)\\((.*)\\) \\{$");

    public static void main(String[] args) throws IOException {
        List<String> lines = Files.readAllLines(Path.of("src/main/java/VaneTown.java"));
        StringBuilder code = new StringBuilder();
        boolean inComment = false;
        for (String line : lines) {
            inComment = inComment || line.trim().startsWith("/*");
            code.append(inComment ? "" : line.replaceAll("//.*", "")).append('\n');
            inComment = inComment && !line.contains("*/");
        }
        for (String forbidden : FORBIDDEN) {
            Matcher m = Pattern.compile(forbidden).matcher(code);
            Check.due("'" + forbidden + "' is used", m.find(), false);
        }
        Check.due("loops by 'while' without a bound are looked for", code.indexOf("while (!") < 0, true);
        int classes = code.toString().split("\\bclass \\w+ \\{", -1).length - 1;
        Check.due("some twelve classes", classes <= 12, true);
        for (int i = 0; i < lines.size(); i++) {
            Check.due("signs of line " + (i + 1), lines.get(i).chars().allMatch(c -> c >= 32 && c < 127), true);
        }
        methods(code.toString().split("\n"));
        Check.end("LanguageTest");
    }

    private static void methods(String[] lines) {
        Map<String, StringBuilder> bodies = new HashMap<>();
        for (int i = 0; i < lines.length; i++) {
            Matcher m = METHOD.matcher(lines[i]);
            if (!m.matches()) {
                continue;
            }
            String name = m.group(2);
            int end = i;
            while (!lines[end].equals(m.group(1) + "}")) {
                bodies.computeIfAbsent(name, k -> new StringBuilder()).append(end == i ? "" : lines[end]).append('\n');
                end++;
            }
            Check.due(name + " has at most sixty lines", end - i <= 60, true);
            Check.due(name + " has at most seven parameters", m.group(3).split(",").length <= 7, true);
        }
        Check.due("the methods are found", bodies.size() > 100, true);
        Map<String, Integer> depths = new HashMap<>();
        for (String name : bodies.keySet()) {
            Check.due(name + ": calls at most eight deep", depth(name, bodies, depths, new TreeSet<>()) <= 8, true);
        }
    }

    /** Methods of one name are taken together, so that it can only be too much. */
    private static int depth(String name, Map<String, StringBuilder> bodies, Map<String, Integer> depths, TreeSet<String> open) {
        if (depths.containsKey(name)) {
            return depths.get(name);
        }
        open.add(name);
        int deepest = 0;
        Matcher m = Pattern.compile("\\b(\\w+)\\(").matcher(bodies.get(name));
        while (m.find()) {
            String called = m.group(1);
            if (bodies.containsKey(called) && !open.contains(called)) {
                deepest = Math.max(deepest, depth(called, bodies, depths, open));
            }
        }
        open.remove(name);
        depths.put(name, deepest + 1);
        return deepest + 1;
    }
}
