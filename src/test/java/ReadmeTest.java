import java.io.IOException;
import java.lang.reflect.Method;
import java.lang.reflect.Modifier;
import java.net.URL;
import java.net.URLClassLoader;
import java.nio.file.Files;
import java.nio.file.Path;
import java.util.ArrayList;
import java.util.Comparator;
import java.util.List;
import java.util.regex.Matcher;
import java.util.regex.Pattern;
import java.util.stream.Stream;

/** README.md's Java is compiled and run as it stands there; each call with an answer behind it must answer so. */
public final class ReadmeTest {
    private static final Pattern ANSWERED =
        Pattern.compile("(?:(?:int|boolean) (\\w+) = )?(.+);\\s*// (NONE|true|false|-?\\d+(?:\\.\\d+)?)(?:: .*|, .*)?");

    private ReadmeTest() { }

    private static List<String> blocks(String readme) {
        List<String> blocks = new ArrayList<>();
        Matcher m = Pattern.compile("(?s)```java\n(.*?)```").matcher(readme);
        while (m.find()) {
            blocks.add(m.group(1));
        }
        return blocks;
    }

    private static String statement(String line, List<String> shown) {
        Matcher m = ANSWERED.matcher(line);
        if (!m.matches()) {
            Check.due("an answer that is no answer: " + line, line.contains("//"), false);
            return line + "\n";
        }
        String call = m.group(2);
        String want = m.group(3).equals("NONE") ? "RoundTrips.NONE" : m.group(3) + (m.group(3).contains(".") ? "f" : "");
        shown.add(call);
        String ahead = m.group(1) == null ? "" : line + "\n";
        return ahead + "out.add(new Object[] {\"" + call + "\", " + (m.group(1) == null ? call : m.group(1)) + ", " + want + "});\n";
    }

    private static String source(String readme, List<String> shown) {
        StringBuilder members = new StringBuilder();
        StringBuilder body = new StringBuilder();
        for (String block : blocks(readme)) {
            if (block.startsWith("static ")) {
                members.append(block);
            } else {
                block.lines().forEach(line -> body.append(statement(line, shown)));
            }
        }
        return "public final class Readme {\n" + members + "public static void run(java.util.List<Object[]> out) {\n" + body + "}\n}\n";
    }

    private static List<Object[]> answers(String source)
            throws IOException, InterruptedException, ReflectiveOperationException {
        List<Object[]> answers = new ArrayList<>();
        Path folder = Files.createTempDirectory("readme");
        Path file = Files.writeString(folder.resolve("Readme.java"), source);
        int compiled = new ProcessBuilder("javac", "-cp", System.getProperty("java.class.path"), "-d", folder.toString(),
            file.toString()).inheritIO().start().waitFor();
        Check.due("README's Java compiles", compiled, 0);
        try (URLClassLoader loader = new URLClassLoader(new URL[] {folder.toUri().toURL()})) {
            if (compiled == 0) {
                loader.loadClass("Readme").getMethod("run", List.class).invoke(null, answers);
            }
        }
        try (Stream<Path> all = Files.walk(folder)) {
            for (Path path : all.sorted(Comparator.reverseOrder()).toList()) {
                Files.delete(path);
            }
        }
        return answers;
    }

    private static void allShown(List<String> shown) {
        for (Method m : RoundTrips.class.getDeclaredMethods()) {
            boolean there = shown.stream().anyMatch(call -> call.contains("x." + m.getName() + "("));
            Check.due("README shows " + m.getName(), there || !Modifier.isPublic(m.getModifiers()), true);
        }
    }

    public static void main(String[] args) throws IOException, InterruptedException, ReflectiveOperationException {
        List<String> shown = new ArrayList<>();
        List<Object[]> answers = answers(source(Files.readString(Path.of("README.md")), shown));
        Check.due("all answers are looked at", answers.size(), shown.size());
        for (Object[] one : answers) {
            Check.due("README: " + one[0] + " answered " + one[1] + ", README says " + one[2], one[1].equals(one[2]), true);
        }
        allShown(shown);
        Check.end("ReadmeTest");
    }
}
