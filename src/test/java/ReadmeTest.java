import java.lang.reflect.Method;
import java.lang.reflect.Modifier;
import java.nio.file.Files;
import java.nio.file.Path;
import java.util.List;
import java.util.regex.Matcher;
import java.util.regex.Pattern;
import javax.tools.JavaCompiler;
import javax.tools.ToolProvider;

/** What README.md shows holds: its rows are compiled and run, and it names every call with all its parameters. */
final class ReadmeTest {
    /** A row: a call, and behind it a number or one of the class's constants as its answer. */
    private static final Pattern ROW = Pattern.compile("(x\\.\\w+\\(.*\\));\\s+// (-?\\d+|[A-Z]+)(:.*)?");
    private static final int FEWEST_ROWS = 30;

    private ReadmeTest() {
    }

    public static void main(String[] args) throws Exception {
        String readme = Files.readString(Path.of("README.md"));
        everyCall(readme);
        rows(readme);
        Due.end("ReadmeTest");
    }

    private static void everyCall(String readme) {
        for (Method m : ChairGrudge.class.getDeclaredMethods()) {
            if (Modifier.isPublic(m.getModifiers())) {
                Matcher named = Pattern.compile("\\|.*`" + m.getName() + "\\(([^)]*)\\)`.*\\|").matcher(readme);
                boolean found = named.find();
                Due.due("the table names " + m.getName(), found);
                if (found) {
                    Due.due("parameters of " + m.getName(), count(named.group(1)), m.getParameterCount());
                }
            }
        }
    }

    private static int count(String parameters) {
        return parameters.isEmpty() ? 0 : parameters.split(",").length;
    }

    private static void rows(String readme) throws Exception {
        StringBuilder body = new StringBuilder();
        Matcher block = Pattern.compile("(?s)```java\n(.*?)```").matcher(readme);
        while (block.find()) {
            block.group(1).lines().forEach(line -> body.append(asked(line)).append("\n"));
        }
        Path folder = Files.createTempDirectory("readme");
        Path source = folder.resolve("ReadmeRows.java");
        Files.writeString(source, "final class ReadmeRows {\nstatic int rows = 0;\nstatic int wrong = 0;\n"
            + "static void due(String call, long got, long want) {\nrows++;\nif (got != want) {\nwrong++;\n"
            + "System.out.println(\"README.md: \" + call + \" answered \" + got + \", due is \" + want);\n}\n}\n"
            + "public static void main(String[] args) {\n" + body
            + "System.exit(wrong == 0 && rows >= " + FEWEST_ROWS + " ? 0 : 1);\n}\n}\n");
        compileAndRun(source, folder);
        try (var files = Files.list(folder)) {
            for (Path file : (Iterable<Path>) files::iterator) {
                Files.delete(file);
            }
        }
        Files.delete(folder);
    }

    private static String asked(String line) {
        Matcher row = ROW.matcher(line.strip());
        if (!row.matches()) {
            return line;
        }
        String answer = row.group(2);
        String want = Character.isUpperCase(answer.charAt(0)) ? "ChairGrudge." + answer : answer + "L";
        return "due(\"" + row.group(1) + "\", " + row.group(1) + ", " + want + ");";
    }

    private static void compileAndRun(Path source, Path folder) throws Exception {
        String classes = System.getProperty("java.class.path");
        JavaCompiler javac = ToolProvider.getSystemJavaCompiler();
        Due.due("there is a compiler", javac != null);
        if (javac == null) {
            return;
        }
        Due.due("the rows compile",
            javac.run(null, null, null, "-cp", classes, "-d", folder.toString(), source.toString()), 0);
        String path = classes + System.getProperty("path.separator") + folder;
        String java = Path.of(System.getProperty("java.home"), "bin", "java").toString();
        Process run = new ProcessBuilder(List.of(java, "-cp", path, "ReadmeRows")).inheritIO().start();
        Due.due("the rows hold, and there are some", run.waitFor(), 0);
    }
}
