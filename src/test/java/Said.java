import java.io.IOException;
import java.io.UncheckedIOException;
import java.nio.charset.StandardCharsets;
import java.nio.file.Files;
import java.nio.file.Path;
import java.util.LinkedHashMap;
import java.util.List;
import java.util.Map;
import java.util.function.Supplier;

/**
 * The sentences of ../shared/DOC.md, each with the test that holds it. A sentence is told word by word: one that the
 * document does not say is wrong, and so is a word of the document that no test names.
 */
final class Said {
    static final String ABOUT = "What it is", TERMS = "Terms", FREE = "Not promised";
    private static final Path DOCUMENT = Path.of("../shared/DOC.md");
    private static final Map<String, String> PARTS = new LinkedHashMap<>();
    private static final Map<String, boolean[]> HELD = new LinkedHashMap<>();

    static {
        read();
    }

    private Said() {
    }

    static String promise(int number) {
        return "Promise " + number;
    }

    private static void read() {
        String document;
        try {
            document = Files.readString(DOCUMENT, StandardCharsets.UTF_8);
        } catch (IOException e) {
            throw new UncheckedIOException(e);
        }
        for (String section : document.split("\n## ")) {
            int end = section.indexOf('\n');
            String title = section.substring(0, end).replaceFirst("(Promise \\d+):.*", "$1");
            // How a call is written down is FaceTest's, and so is where the interface says what.
            String text = section.substring(end).replace("```text", " ").replace("```", " ").replaceAll("\\s+", " ").trim()
                .replaceFirst("^`[^`]*`: ", "").replaceAll("Ahead of the calls .*? the interface says: ---- [^.]*\\.", "");
            PARTS.put(title, text);
            HELD.put(title, new boolean[text.length()]);
        }
    }

    /** A part of the document says a sentence, which this test holds. */
    static void says(String part, String sentence, Runnable test) {
        String holding = part + ", \"" + sentence + "\": ";
        Due.holding(holding);
        mark(part, sentence);
        int asked = Due.asked();
        test.run();
        Due.due("is held by an answer", Due.asked() > asked);
        Due.holding("");
    }

    /** Calls that the sentence refuses: the answer, and all stays as it was. */
    static void refuses(String part, String sentence, long answer, Supplier<Run> made, String... calls) {
        says(part, sentence, () -> stays(answer, made, calls));
    }

    /** Calls in thought, each on an object of its own: all stays as it was. */
    static void stays(Supplier<Run> made, String... calls) {
        List<String> was = Look.at(made.get());
        for (String call : calls) {
            Look.same(call, Look.at(made.get().does(call)), was);
        }
    }

    /** Each call, on an object of its own, answers so, and all stays as it was. */
    static void stays(long answer, Supplier<Run> made, String... calls) {
        List<String> was = Look.at(made.get());
        for (String call : calls) {
            Run run = made.get().due(call, answer);
            Look.same(call, Look.at(run), was);
        }
    }

    private static void mark(String part, String sentence) {
        String text = PARTS.getOrDefault(part, "");
        int place = text.indexOf(sentence);
        Due.due("is a sentence of the document", place >= 0);
        while (place >= 0) {
            for (int i = 0; i < sentence.length(); i++) {
                HELD.get(part)[place + i] = true;
            }
            place = text.indexOf(sentence, place + 1);
        }
    }

    /** Each word of the terms and of each promise is named by a test. */
    static void allIsHeld() {
        int parts = 0;
        for (String part : PARTS.keySet()) {
            if (part.equals(TERMS) || part.startsWith("Promise ")) {
                parts++;
                Due.due(part + ": no test names \"" + left(part) + "\"", left(part).isEmpty());
            }
        }
        Due.due("the terms and 31 promises", parts, 32);
    }

    private static String left(String part) {
        String text = PARTS.get(part);
        StringBuilder left = new StringBuilder();
        for (int i = 0; i < text.length(); i++) {
            left.append(HELD.get(part)[i] ? ' ' : text.charAt(i));
        }
        // The headings ==== 1, 2, 3 and what stands between two sentences say nothing.
        String words = left.toString().replaceAll("==== \\d", " ").replaceAll("\\s+", " ").trim();
        return words.matches(".*\\w.*") ? words : "";
    }
}
