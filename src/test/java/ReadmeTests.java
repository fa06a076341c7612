import java.io.IOException;
import java.lang.reflect.Method;
import java.lang.reflect.Modifier;
import java.net.URL;
import java.net.URLClassLoader;
import java.nio.file.Files;
import java.nio.file.Path;
import java.util.Comparator;
import java.util.List;
import java.util.Set;
import java.util.TreeSet;
import java.util.regex.Matcher;
import java.util.regex.Pattern;
import java.util.stream.Stream;
import javax.tools.JavaCompiler;
import javax.tools.ToolProvider;

/** README.md: its examples are compiled and answer as it says; each call stands in its group. */
public final class ReadmeTests {
    private static final Pattern EXAMPLES = Pattern.compile("```java\n(.*?)```", Pattern.DOTALL);
    private static final Pattern CALL = Pattern.compile("(duel\\.\\w+\\([^;]*\\));( +// (.*))?");
    private static final Pattern DUE = Pattern.compile(
        "(-?\\w+)(?:; asked\\(\\) (-?\\w+))?(?:; upper\\(\\) (\\d+), lower\\(\\) (\\d+))?(?:: .*)?");
    private static final Pattern GROUP = Pattern.compile("Ahead of the calls (.*?) the interface says: ---- (\\d) ");
    private static final int EXAMPLES_AT_LEAST = 50;

    private static int checks = 0;
    private static int wrong = 0;

    public static void main(String[] args) throws Exception {
        String readme = Files.readString(Path.of("README.md"));
        runExamples(readme);
        callsStandInTheirGroups(readme, Files.readString(Path.of("../shared/DOC.md")));
        System.out.println("ReadmeTests: " + checks + " checks, " + wrong + " wrong");
        if (wrong > 0) {
            System.exit(1);
        }
    }

    private static void hold(String what, boolean so) {
        checks++;
        if (!so) {
            wrong++;
            System.out.println("not so: " + what);
        }
    }

    /** Called by the program that is made of the examples. */
    public static void due(String call, long got, long want) {
        hold(call + " answered " + got + ", README.md says " + want, got == want);
    }

    private static void runExamples(String readme) throws Exception {
        StringBuilder program = new StringBuilder("public final class ReadmeExamples {\n");
        program.append("public static void main(String[] args) {\n");
        Matcher examples = EXAMPLES.matcher(readme);
        while (examples.find()) {
            for (String row : examples.group(1).split("\n")) {
                program.append(checked(row)).append('\n');
            }
        }
        Path folder = Files.createTempDirectory("readme");
        try {
            Path file = folder.resolve("ReadmeExamples.java");
            Files.writeString(file, program.append("}\n}\n"));
            compileAndRun(folder, file);
        } finally {
            deleteAll(folder);
        }
        hold("README.md has examples: " + checks, checks >= EXAMPLES_AT_LEAST);
    }

    private static void compileAndRun(Path folder, Path file) throws Exception {
        JavaCompiler compiler = ToolProvider.getSystemJavaCompiler();
        String path = System.getProperty("java.class.path");
        int result = compiler.run(null, null, null, "-cp", path, "-d", folder.toString(), file.toString());
        hold("the examples compile", result == 0);
        if (result == 0) {
            try (URLClassLoader loader = new URLClassLoader(new URL[] {folder.toUri().toURL()})) {
                Method main = loader.loadClass("ReadmeExamples").getMethod("main", String[].class);
                main.invoke(null, (Object) new String[0]);
            }
        }
    }

    private static void deleteAll(Path folder) throws IOException {
        try (Stream<Path> all = Files.walk(folder)) {
            for (Path p : all.sorted(Comparator.reverseOrder()).toList()) {
                Files.delete(p);
            }
        }
    }

    /** A row of an example; a call with a remark is held to what the remark says that it answers. */
    private static String checked(String row) {
        Matcher call = CALL.matcher(row);
        if (!call.matches() || call.group(3) == null) {
            return row;
        }
        Matcher due = DUE.matcher(call.group(3));
        hold("'" + row + "' says what is due", due.matches());
        if (!due.matches()) {
            return row;
        }
        return dueRow(call.group(1), due.group(1)) + dueRow("duel.asked()", due.group(2))
            + dueRow("duel.upper()", due.group(3)) + dueRow("duel.lower()", due.group(4));
    }

    private static String dueRow(String call, String want) {
        if (want == null) {
            return "";
        }
        String number = want.matches("[A-Z]+") ? "ShapeDuel." + want : want;
        return "ReadmeTests.due(\"" + call + "\", " + call + ", " + number + "); ";
    }

    private static void callsStandInTheirGroups(String readme, String doc) {
        Set<String> found = new TreeSet<>();
        Matcher groups = GROUP.matcher(doc);
        while (groups.find()) {
            String section = section(readme, groups.group(2));
            List<String> names = List.of(groups.group(1).replaceAll("[`,]", "").split(" "));
            for (String name : names) {
                hold(name + " stands in group " + groups.group(2), section.contains("`" + name + "("));
                found.add(name);
            }
            Matcher told = Pattern.compile("`(\\w+)\\(").matcher(section);
            while (told.find()) {
                hold(told.group(1) + " belongs to group " + groups.group(2), names.contains(told.group(1)));
            }
        }
        for (Method m : ShapeDuel.class.getDeclaredMethods()) {
            hold(m.getName() + " is in a group", !Modifier.isPublic(m.getModifiers()) || found.contains(m.getName()));
        }
    }

    /** From the heading of a group to the next heading. */
    private static String section(String readme, String group) {
        int from = readme.indexOf("\n### " + group + " ");
        hold("there is a group " + group, from >= 0);
        if (from < 0) {
            return "";
        }
        Matcher next = Pattern.compile("\n##").matcher(readme);
        return readme.substring(from, next.find(from + 1) ? next.start() : readme.length());
    }
}
