import java.io.IOException;
import java.net.URL;
import java.net.URLClassLoader;
import java.nio.file.Files;
import java.nio.file.Path;
import java.util.ArrayList;
import java.util.Comparator;
import java.util.List;
import java.util.Map;
import java.util.TreeMap;
import java.util.regex.Matcher;
import java.util.regex.Pattern;
import java.util.stream.Stream;
import javax.tools.JavaCompiler;
import javax.tools.ToolProvider;

/** What README.md says: its example answers so, and its tables have the calls and the STATUS of the document. */
public final class ReadmeTest {
    private static final Path README = Path.of("README.md");
    private static final Path DOCUMENT = Path.of("../shared/DOC.md");
    private static final Pattern EXAMPLE = Pattern.compile("(?s)```java\n(.*?)```");
    private static final Pattern STATEMENT = Pattern.compile("(?:int (\\w+) = )?(desk\\.\\w+\\(.*\\)); +// (true|false|-?\\d+)(?:: .+)?");
    private static final Pattern FACE = Pattern.compile("(?m)^    public (\\w+ \\w+\\([^)]*\\));$");
    private static final Pattern PROMISE = Pattern.compile("(?m)^`(\\w+ \\w+\\([^)]*\\))`: (.*)$");
    private static final Pattern CAN_HAVE = Pattern.compile("(?:\\(|; )(\\d)(?=[:;)])");
    private static final Pattern CALL_ROW = Pattern.compile("(?m)^\\| `(\\w+ \\w+\\([^)]*\\))` \\| .+ \\| ([\\d, ]*)\\|$");
    private static final Pattern STATUS_ROW = Pattern.compile("(?m)^\\| (\\d) \\| ([^(|]+?)(?: \\([^|]*)? \\|$");
    private static final int STATUSES = 9;
    private static final Check CHECK = new Check();

    public static void main(String[] args) throws Exception {
        String readme = Files.readString(README);
        String document = Files.readString(DOCUMENT);
        exampleAnswersSo(readme);
        exampleHasEachCall(readme, document);
        tableHasEachCall(readme, document);
        tableHasEachStatus(readme, document);
        CHECK.end();
    }

    private static void exampleAnswersSo(String readme) throws Exception {
        List<String> calls = new ArrayList<>();
        List<String> due = new ArrayList<>();
        StringBuilder body = new StringBuilder();
        for (String line : example(readme).split("\n")) {
            Matcher statement = STATEMENT.matcher(line);
            if (!statement.matches()) {
                holds("a statement of the example says what it answers: " + line, line.equals("LostDesk desk = new LostDesk();"));
                body.append(line).append('\n');
                continue;
            }
            boolean named = statement.group(1) != null;
            if (named) body.append(line).append('\n');
            body.append("answers.add(String.valueOf(").append(named ? statement.group(1) : statement.group(2)).append("));\n");
            calls.add(statement.group(2));
            due.add(statement.group(3));
        }
        List<?> got = answersOf(body.toString());
        CHECK.due("answers of the example", got.size(), due.size());
        for (int k = 0; k < got.size() && k < due.size(); k++) {
            holds(calls.get(k) + " answers " + got.get(k) + ", README.md says " + due.get(k), got.get(k).equals(due.get(k)));
        }
    }

    private static String example(String readme) {
        Matcher example = EXAMPLE.matcher(readme);
        boolean there = example.find();
        holds("README.md has an example", there);
        return there ? example.group(1) : "";
    }

    /** Compiles the statements as a reader of README.md would, and runs them. */
    private static List<?> answersOf(String body) throws Exception {
        Path directory = Files.createTempDirectory("readme");
        try {
            Path source = directory.resolve("Example.java");
            Files.writeString(source, "public final class Example {\n"
                + "public static java.util.List<String> answers() {\n"
                + "java.util.List<String> answers = new java.util.ArrayList<>();\n" + body + "return answers;\n}\n}\n");
            JavaCompiler compiler = ToolProvider.getSystemJavaCompiler();
            String path = System.getProperty("java.class.path");
            int exit = compiler.run(null, null, null, "-cp", path, "-d", directory.toString(), source.toString());
            CHECK.due("javac of the example", exit, 0);
            if (exit != 0) return List.of();
            try (URLClassLoader loader = new URLClassLoader(new URL[] {directory.toUri().toURL()})) {
                return (List<?>) loader.loadClass("Example").getMethod("answers").invoke(null);
            }
        } finally {
            delete(directory);
        }
    }

    private static void delete(Path directory) throws IOException {
        try (Stream<Path> files = Files.walk(directory)) {
            for (Path file : files.sorted(Comparator.reverseOrder()).toList()) {
                Files.delete(file);
            }
        }
    }

    private static void exampleHasEachCall(String readme, String document) {
        String example = example(readme);
        for (String call : face(document)) {
            String name = call.substring(call.indexOf(' ') + 1, call.indexOf('('));
            holds("the example has " + name, example.contains("desk." + name + "("));
        }
    }

    private static List<String> face(String document) {
        List<String> calls = new ArrayList<>();
        Matcher call = FACE.matcher(document);
        while (call.find()) {
            calls.add(call.group(1));
        }
        CHECK.due("calls of the document's face", calls.size(), 24);
        return calls;
    }

    private static void tableHasEachCall(String readme, String document) {
        Map<String, String> due = new TreeMap<>();
        Matcher promise = PROMISE.matcher(document);
        while (promise.find()) {
            due.put(promise.group(1), numbersIn(promise.group(2)));
        }
        holds("each call of the face has its promise", due.keySet().containsAll(face(document)));
        Map<String, String> got = new TreeMap<>();
        Matcher row = CALL_ROW.matcher(readme);
        while (row.find()) {
            got.put(row.group(1), row.group(2).trim());
        }
        holds("README.md has the calls " + got.keySet(), got.keySet().equals(due.keySet()));
        for (String call : got.keySet()) {
            holds("README.md has STATUS " + got.get(call) + " of " + call, got.get(call).equals(due.get(call)));
        }
    }

    /** The STATUS numbers that the brackets of a promise name. */
    private static String numbersIn(String promise) {
        StringBuilder numbers = new StringBuilder();
        Matcher number = CAN_HAVE.matcher(promise);
        while (number.find()) {
            numbers.append(numbers.length() == 0 ? "" : ", ").append(number.group(1));
        }
        return numbers.toString();
    }

    private static void tableHasEachStatus(String readme, String document) {
        int rows = 0;
        Matcher row = STATUS_ROW.matcher(readme);
        while (row.find()) {
            CHECK.due("STATUS in the table of README.md", Integer.parseInt(row.group(1)), rows);
            String words = row.group(1) + " " + row.group(2) + ".";
            holds("the document has STATUS " + words, rows == 0 || document.contains(words));
            rows++;
        }
        CHECK.due("rows for STATUS in README.md", rows, STATUSES);
    }

    private static void holds(String what, boolean holds) {
        CHECK.due(what, holds ? 1 : 0, 1);
    }
}
