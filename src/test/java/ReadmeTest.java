import java.io.IOException;
import java.lang.reflect.Method;
import java.lang.reflect.Modifier;
import java.net.URL;
import java.net.URLClassLoader;
import java.nio.file.Files;
import java.nio.file.Path;
import java.util.Comparator;
import java.util.List;
import java.util.Set;
import java.util.TreeSet;
import java.util.regex.Matcher;
import java.util.regex.Pattern;
import java.util.stream.Stream;

/** What README.md tells: its examples are compiled and run as they stand, and its table has the whole face. */
public final class ReadmeTest {
    private static final Pattern EXAMPLE = Pattern.compile("```java\n(.*?)```", Pattern.DOTALL);
    private static final Pattern ANSWERED = Pattern.compile("(?m)^(x\\.\\w+\\(.*?\\)); +// (-?\\d+): .*$");
    private static final Pattern ROW = Pattern.compile("(?m)^\\| (\\d+) \\| `(?:new )?(\\w+)\\((.*?)\\)` \\|");
    private static final List<String> FACE = List.of("SlateHills", "island", "clerk", "vines", "hill", "type", "clear",
            "read", "day", "putBack", "undo", "of", "has", "high", "goes", "lost", "chain", "plan", "askFirst", "calm",
            "seen", "which", "next", "mark", "forget", "kinds", "look", "waiting", "chance", "years", "part", "image",
            "from", "status", "count", "digest");
    private static int wrong = 0;

    private static void due(String what, Object got, Object want) {
        if (!got.equals(want)) {
            wrong++;
            System.out.println(what + ": " + got + ", due is " + want);
        }
    }

    /** A program of the examples, each call with an answer told behind it being asked for that answer. */
    private static String programOf(String readme) {
        StringBuilder body = new StringBuilder();
        Matcher example = EXAMPLE.matcher(readme);
        while (example.find()) {
            body.append("{\n").append(ANSWERED.matcher(example.group(1)).replaceAll("due(\"$1\", $1, $2L);")).append("}\n");
        }
        return "public final class Examples {\n"
                + "static int asked = 0;\n"
                + "static int wrong = 0;\n"
                + "static void due(String call, long got, long want) {\n"
                + "asked++;\n"
                + "if (got != want) { wrong++;"
                + " System.out.println(\"README.md: \" + call + \" answered \" + got + \", told is \" + want); }\n"
                + "}\n"
                + "public static int[] run() {\n" + body + "return new int[] {asked, wrong};\n}\n}\n";
    }

    private static void runExamples(String readme)
            throws IOException, InterruptedException, ReflectiveOperationException {
        Path room = Files.createTempDirectory("readme");
        try {
            Path source = room.resolve("Examples.java");
            Files.writeString(source, programOf(readme));
            int failed = new ProcessBuilder("javac", "--release", "17", "-cp", System.getProperty("java.class.path"),
                    "-d", room.toString(), source.toString()).inheritIO().start().waitFor();
            due("javac's answer on the examples", failed, 0);
            if (failed == 0) {
                try (URLClassLoader loader = new URLClassLoader(new URL[] {room.toUri().toURL()})) {
                    int[] found = (int[]) loader.loadClass("Examples").getMethod("run").invoke(null);
                    due("calls with an answer told", found[0] > 30, true);
                    due("answers that are not as told", found[1], 0);
                }
            }
        } finally {
            try (Stream<Path> files = Files.walk(room)) {
                files.sorted(Comparator.reverseOrder()).forEach(file -> file.toFile().delete());
            }
        }
    }

    private static void tableHasTheFace(String readme) {
        Set<String> rows = new TreeSet<>();
        Matcher row = ROW.matcher(readme);
        int number = 0;
        while (row.find()) {
            due("promise of row " + number, row.group(1), String.valueOf(number + 1));
            due("call of promise " + (number + 1), row.group(2), number < FACE.size() ? FACE.get(number) : "none");
            rows.add(row.group(2) + "/" + (row.group(3).isEmpty() ? 0 : row.group(3).split(",").length));
            number++;
        }
        due("rows of the table", number, FACE.size());
        Set<String> face = new TreeSet<>(Set.of("SlateHills/0"));
        for (Method m : SlateHills.class.getDeclaredMethods()) {
            if (Modifier.isPublic(m.getModifiers())) {
                face.add(m.getName() + "/" + m.getParameterCount());
            }
        }
        due("calls of the table", rows, face);
    }

    private static void namesEveryTest(String readme) throws IOException {
        due("README.md tells of .ci/run", readme.contains(".ci/run"), true);
        try (Stream<Path> tests = Files.list(Path.of("src/test/java"))) {
            tests.map(test -> test.getFileName().toString().replace(".java", ""))
                    .forEach(name -> due("README.md tells of " + name, readme.contains("`" + name + "`"), true));
        }
    }

    public static void main(String[] args)
            throws IOException, InterruptedException, ReflectiveOperationException {
        String readme = Files.readString(Path.of("README.md"));
        runExamples(readme);
        tableHasTheFace(readme);
        namesEveryTest(readme);
        System.out.println(wrong == 0 ? "README.md tells what is so" : wrong + " things are not as README.md tells");
        if (wrong != 0) {
            System.exit(1);
        }
    }
}
