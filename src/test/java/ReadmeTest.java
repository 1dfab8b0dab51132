import java.io.File;
import java.nio.file.Files;
import java.nio.file.Path;
import java.util.ArrayList;
import java.util.List;
import java.util.regex.Matcher;
import java.util.regex.Pattern;
import javax.tools.ToolProvider;

/**
 * The run that README.md shows is compiled as it stands there; each number that it takes from a call must be the one
 * that the comment behind it begins with, and each call that answers a boolean must answer true.
 */
final class ReadmeTest {
    private static final Pattern NUMBER = Pattern.compile("int (\\w+) = .*; +// (-?\\d+).*");
    private static final Pattern BOOLEAN = Pattern.compile("(shelf\\.(?:put|path|index)\\(.*\\));.*");

    public static void main(String[] args) throws Exception {
        Path place = Files.createDirectories(Path.of("build", "readme"));
        Path file = place.resolve("ReadmeRun.java");
        Files.write(file, inAClass(tested(shown())));
        Check.due("it compiles", compile(file, place), 0);
        Check.due("it answers what it says", run(place), 0);
        Check.end();
    }

    private static List<String> shown() throws Exception {
        List<String> lines = Files.readAllLines(Path.of("README.md"));
        int start = lines.indexOf("```java") + 1;
        return lines.subList(start, start + lines.subList(start, lines.size()).indexOf("```"));
    }

    private static List<String> tested(List<String> shown) {
        List<String> lines = new ArrayList<>();
        for (String line : shown) {
            Matcher truth = BOOLEAN.matcher(line);
            lines.add(truth.matches() ? "Check.due(\"" + truth.group(1) + "\", " + truth.group(1) + ", true);" : line);
            Matcher number = NUMBER.matcher(line);
            if (number.matches()) {
                lines.add("Check.due(\"" + number.group(1) + "\", " + number.group(1) + ", " + number.group(2) + ");");
            } else {
                Check.due("it says what it takes: " + line, line.startsWith("int "), false);
            }
        }
        return lines;
    }

    private static List<String> inAClass(List<String> lines) {
        List<String> all = new ArrayList<>();
        all.add("public final class ReadmeRun { public static void main(String[] args) { ");
        all.addAll(lines);
        all.add("Check.end(); } }");
        return all;
    }

    private static int compile(Path file, Path place) {
        String classes = System.getProperty("java.class.path");
        return ToolProvider.getSystemJavaCompiler().run(null, null, null, "-cp", classes, "-d", place.toString(), file.toString());
    }

    private static int run(Path place) throws Exception {
        String classes = System.getProperty("java.class.path") + File.pathSeparator + place;
        return new ProcessBuilder("java", "-cp", classes, "ReadmeRun").inheritIO().start().waitFor();
    }
}
