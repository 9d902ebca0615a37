import java.io.IOException;
import java.lang.reflect.Constructor;
import java.lang.reflect.Field;
import java.lang.reflect.Method;
import java.lang.reflect.Modifier;
import java.nio.file.Files;
import java.nio.file.Path;
import java.util.Arrays;
import java.util.List;
import java.util.Set;
import java.util.TreeSet;
import java.util.regex.Matcher;
import java.util.regex.Pattern;
import java.util.stream.Collectors;

/** What a machine can see of ../shared/LANGUAGE.md and of the document's face. */
public final class LanguageTest {
    private static final Path SOURCE = Path.of("src/main/java/RoundTrips.java");
    private static final Path DOCUMENT = Path.of("../shared/DOC.md");

    private LanguageTest() { }

    private static String simple(Class<?> type) {
        return type.getSimpleName();
    }

    private static Set<String> told() throws IOException {
        String document = Files.readString(DOCUMENT);
        String face = document.substring(document.indexOf("public final class RoundTrips"));
        face = face.substring(0, face.indexOf("```"));
        Set<String> told = new TreeSet<>();
        Matcher m = Pattern.compile("public (int|boolean) (\\w+)\\((.*?)\\);").matcher(face);
        while (m.find()) {
            String types = m.group(3).isEmpty() ? "" : Arrays.stream(m.group(3).split(", "))
                .map(p -> p.split(" ")[0]).collect(Collectors.joining(","));
            told.add(m.group(1) + " " + m.group(2) + "(" + types + ")");
        }
        return told;
    }

    private static void face() throws IOException {
        Set<String> there = new TreeSet<>();
        Set<String> hidden = new TreeSet<>();
        for (Method m : RoundTrips.class.getDeclaredMethods()) {
            if (Modifier.isPublic(m.getModifiers())) {
                there.add(simple(m.getReturnType()) + " " + m.getName() + "("
                    + Arrays.stream(m.getParameterTypes()).map(LanguageTest::simple).collect(Collectors.joining(",")) + ")");
            } else if (!m.isSynthetic()) {
                Check.due("private: " + m, Modifier.isPrivate(m.getModifiers()), true);
                hidden.add(m.getName());
            }
        }
        Check.due("the face: " + there, there.equals(told()), true);
        Check.due("calls of the face", there.size(), 44);
        for (Class<?> inner : RoundTrips.class.getDeclaredClasses()) {
            Check.due("static: " + inner, Modifier.isStatic(inner.getModifiers()), true);
            for (Method m : inner.getDeclaredMethods()) {
                hidden.add(m.getName());
            }
        }
        Set<String> names = there.stream().map(s -> s.replaceAll("^\\w+ |\\(.*", "")).collect(Collectors.toSet());
        hidden.retainAll(names);
        Check.due("hidden methods with names of the face " + hidden, hidden.isEmpty(), true);
        for (Field f : RoundTrips.class.getDeclaredFields()) {
            Check.due("private or NONE: " + f, Modifier.isPrivate(f.getModifiers()) || f.getName().equals("NONE"), true);
        }
        Constructor<?>[] made = RoundTrips.class.getDeclaredConstructors();
        Check.due("one constructor", made.length == 1 && Modifier.isPublic(made[0].getModifiers()), true);
    }

    private static void sizes() {
        Class<?>[] inner = RoundTrips.class.getDeclaredClasses();
        Check.due("at most twelve classes", inner.length + 1 <= 12, true);
        for (Class<?> c : inner) {
            fieldsAndParameters(c);
        }
        fieldsAndParameters(RoundTrips.class);
    }

    private static void fieldsAndParameters(Class<?> c) {
        int fields = 0;
        for (Field f : c.getDeclaredFields()) {
            boolean constant = Modifier.isStatic(f.getModifiers());
            Check.due("static and not final: " + f, constant && !Modifier.isFinal(f.getModifiers()), false);
            fields += constant ? 0 : 1;
        }
        Check.due("at most twenty fields in " + c, fields <= 20, true);
        for (Method m : c.getDeclaredMethods()) {
            Check.due("at most seven parameters: " + m, m.getParameterCount() <= 7, true);
        }
    }

    private static void words(String source) {
        String code = source.replaceAll("(?s)/\\*.*?\\*/", "").replaceAll("//[^\n]*", "").replaceAll("'[^\n']*'", "' '");
        for (String bad : List.of("\\bthrow\\b", "\\btry\\b", "\\bcatch\\b", "->", "::", "\\bsynchronized\\b", "\\bassert\\b",
                "\\binstanceof\\b", "\\bdouble\\b", "Exact\\b", "\\bgetClass\\b", "\\bprotected\\b", "@", "\\bObject\\b",
                "\\bpublic (?!static final int NONE|RoundTrips\\(|int |boolean |final class RoundTrips)")) {
            Check.due("found " + bad, Pattern.compile(bad).matcher(code).find(), false);
        }
        Matcher imports = Pattern.compile("import ([\\w.]+);").matcher(code);
        while (imports.find()) {
            Check.due("import of " + imports.group(1), imports.group(1).equals("java.util.Arrays"), true);
        }
        Matcher library = Pattern.compile("\\b(Arrays|Math|Integer|Long|System|Float)\\.(\\w+)").matcher(code);
        Set<String> allowed = Set.of("Arrays.copyOf", "Math.min", "Math.max", "Integer.bitCount", "System.arraycopy");
        while (library.find()) {
            Check.due("call of " + library.group(), allowed.contains(library.group()), true);
        }
        Check.due("signs above 127", source.chars().anyMatch(c -> c > 127), false);
    }

    private static void methods(List<String> lines) {
        int begin = -1;
        for (int i = 0; i < lines.size(); i++) {
            String line = lines.get(i);
            if (line.matches("( {4}| {8})(?! )(?!(private |public )?(abstract |static |final )*class ).*\\) \\{")) {
                begin = i;
            }
            if (begin >= 0 && line.equals(lines.get(begin).replaceAll("\\S.*", "") + "}")) {
                Check.due("at most sixty lines: " + lines.get(begin), i - begin < 60, true);
                begin = -1;
            }
        }
    }

    public static void main(String[] args) throws IOException {
        face();
        sizes();
        words(Files.readString(SOURCE));
        methods(Files.readAllLines(SOURCE));
        Check.end("LanguageTest");
    }
}
