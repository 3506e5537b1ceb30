import java.io.IOException;
import java.nio.file.Files;
import java.nio.file.Path;
import java.util.ArrayList;
import java.util.Arrays;
import java.util.List;
import java.util.regex.Matcher;
import java.util.regex.Pattern;
import java.util.stream.Stream;

/** Each scene names a sentence that stands in the document, and no word of its promises is left without a scene. */
public final class SentencesTest {
    private static final Path DOCUMENT = Path.of("../shared/DOC.md");
    private static final Path TESTS = Path.of("src/test/java");
    private static final Pattern SCENE = Pattern.compile("new Scene\\(CHECK, \"([^\"]+)\"\\)");
    private static final Pattern PROMISED = Pattern.compile("[A-Za-z0-9]");
    private static final Check CHECK = new Check();

    public static void main(String[] args) throws IOException {
        String promised = promisedText(Files.readString(DOCUMENT));
        boolean[] held = new boolean[promised.length()];
        for (String sentence : sentencesOfScenes()) {
            hold(promised, held, sentence);
        }
        for (String rest : restOf(promised, held)) {
            CHECK.due("no scene holds \"" + rest + "\"", 1, 0);
        }
        CHECK.end();
    }

    /** What is said of the calls, of the terms and of the promises, without headings, heads of calls and fences. */
    private static String promisedText(String document) {
        String calls = between(document, "An object is used", "## The public face");
        String terms = between(document, "## Terms", "## Not promised");
        String text = "An object is used" + calls + terms;
        text = text.replaceAll("(?m)^## .*$", "").replaceAll("(?m)^```.*$", "").replaceAll("(?m)^`[^`]*`: ", "");
        return text.replaceAll("==== \\d\\. ", "").replaceAll("\\s+", " ");
    }

    private static String between(String text, String first, String last) {
        int start = text.indexOf(first);
        int end = text.indexOf(last);
        CHECK.due("the document has " + first + " before " + last, start >= 0 && end > start ? 1 : 0, 1);
        return text.substring(start + first.length(), end);
    }

    private static List<String> sentencesOfScenes() throws IOException {
        List<String> sentences = new ArrayList<>();
        try (Stream<Path> files = Files.list(TESTS)) {
            for (Path file : files.sorted().toList()) {
                Matcher scene = SCENE.matcher(Files.readString(file));
                while (scene.find()) {
                    sentences.add(scene.group(1));
                }
            }
        }
        return sentences;
    }

    private static void hold(String promised, boolean[] held, String sentence) {
        int at = promised.indexOf(sentence);
        CHECK.due("the document has \"" + sentence + "\"", at >= 0 ? 1 : 0, 1);
        for (int from = at; from >= 0; from = promised.indexOf(sentence, from + 1)) {
            Arrays.fill(held, from, from + sentence.length(), true);
        }
    }

    private static List<String> restOf(String promised, boolean[] held) {
        StringBuilder rest = new StringBuilder();
        for (int k = 0; k < held.length; k++) {
            rest.append(held[k] ? '\n' : promised.charAt(k));
        }
        return Arrays.stream(rest.toString().split("\n+")).filter(words -> PROMISED.matcher(words).find()).toList();
    }
}
