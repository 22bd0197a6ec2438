import java.io.IOException;
import java.lang.reflect.Field;
import java.lang.reflect.Method;
import java.lang.reflect.Modifier;
import java.net.URL;
import java.net.URLClassLoader;
import java.nio.file.Files;
import java.nio.file.Path;
import java.util.ArrayList;
import java.util.List;
import java.util.TreeSet;
import java.util.regex.Matcher;
import java.util.regex.Pattern;
import java.util.stream.Stream;
import javax.tools.ToolProvider;

/** README.md: its sample is compiled and run, and its tables have every call, every constant and every test. */
public final class ReadmeTest {
    private static final Checks CHECKS = new Checks("ReadmeTest");
    private static final Pattern TOLD_CALL = Pattern.compile("(?m)^(x\\.\\w+\\(.*?\\)); +// (-?\\w+): .+$");

    public static void main(String[] args) throws IOException, ReflectiveOperationException {
        String page = Files.readString(Path.of("README.md"));
        String sample = between(page, "```java\n", "```");
        sampleTellsAll(sample);
        sampleAnswers(sample);
        calls(between(page, "| call |", "\n\n"));
        constants(between(page, "| answer |", "\n\n"));
        tests(between(page, "| test |", "\n\n"));
        CHECKS.end();
    }

    private static void isSo(String what, boolean so) {
        CHECKS.due(what, so ? 1 : 0, 1);
    }

    private static void alike(String what, TreeSet<String> told, TreeSet<String> due) {
        isSo(what + " told are " + told + ", due are " + due, told.equals(due));
    }

    private static String between(String text, String from, String to) {
        int found = text.indexOf(from);
        int end = text.indexOf(to, found + from.length());
        isSo("README.md has a part from " + from.trim(), found >= 0 && end >= 0);
        return found >= 0 && end >= 0 ? text.substring(found + from.length(), end) : "";
    }

    /** What the first group of a form finds at the beginning of the rows of a table. */
    private static TreeSet<String> firstColumn(String table, String form) {
        TreeSet<String> found = new TreeSet<>();
        Matcher row = Pattern.compile("(?m)^\\| `" + form).matcher(table);
        while (row.find()) {
            found.add(row.group(1));
        }
        return found;
    }

    private static void sampleTellsAll(String sample) {
        for (String line : sample.split("\n")) {
            isSo("told with its answer: " + line, !line.startsWith("x.") || TOLD_CALL.matcher(line).matches());
        }
    }

    private static void sampleAnswers(String sample) throws IOException, ReflectiveOperationException {
        List<Long> got = new ArrayList<>();
        run(TOLD_CALL.matcher(sample).replaceAll("got.add((long) $1);"), got);
        Matcher told = TOLD_CALL.matcher(sample);
        int place = 0;
        while (told.find() && place < got.size()) {
            CHECKS.due(told.group(1), got.get(place), number(told.group(2)));
            place++;
        }
        isSo("the sample has calls, and all were compared", place > 0 && place == got.size());
    }

    private static long number(String said) throws ReflectiveOperationException {
        return said.matches("-?\\d+") ? Long.parseLong(said) : DarkOffice.class.getField(said).getInt(null);
    }

    private static void run(String lines, List<Long> got) throws IOException, ReflectiveOperationException {
        Path folder = Files.createTempDirectory("readme");
        Path source = folder.resolve("Sample.java");
        Files.writeString(source, "public final class Sample {\npublic static void run(java.util.List<Long> got) {\n"
                + lines + "}\n}\n");
        int failed = ToolProvider.getSystemJavaCompiler().run(null, null, null, "-cp",
                System.getProperty("java.class.path"), "-d", folder.toString(), source.toString());
        CHECKS.due("javac of the sample", failed, 0);
        if (failed == 0) {
            try (URLClassLoader loader = new URLClassLoader(new URL[] {folder.toUri().toURL()})) {
                loader.loadClass("Sample").getMethod("run", List.class).invoke(null, got);
            }
        }
        Files.deleteIfExists(folder.resolve("Sample.class"));
        Files.delete(source);
        Files.delete(folder);
    }

    private static void calls(String table) {
        TreeSet<String> due = new TreeSet<>();
        for (Method method : DarkOffice.class.getDeclaredMethods()) {
            if (Modifier.isPublic(method.getModifiers())) {
                due.add(method.getName() + " of " + method.getParameterCount());
            }
        }
        TreeSet<String> told = new TreeSet<>();
        for (String call : firstColumn(table, "(\\w+\\(.*?\\))`")) {
            String inside = call.substring(call.indexOf('(') + 1, call.length() - 1);
            int parameters = inside.isEmpty() ? 0 : inside.split(", ").length;
            told.add(call.substring(0, call.indexOf('(')) + " of " + parameters);
        }
        alike("calls", told, due);
    }

    private static void constants(String table) throws ReflectiveOperationException {
        TreeSet<String> due = new TreeSet<>();
        for (Field field : DarkOffice.class.getFields()) {
            due.add(field.getName() + "` | " + field.getInt(null));
        }
        alike("constants", firstColumn(table, "(\\w+` \\| -?\\d+)"), due);
    }

    private static void tests(String table) throws IOException {
        TreeSet<String> due = new TreeSet<>();
        try (Stream<Path> files = Files.list(Path.of("src/test/java"))) {
            files.map(file -> file.getFileName().toString())
                    .filter(name -> name.endsWith("Test.java"))
                    .forEach(name -> due.add(name.replace(".java", "")));
        }
        alike("tests", firstColumn(table, "(\\w+)`"), due);
    }
}
