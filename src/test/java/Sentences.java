import java.io.IOException;
import java.nio.file.Files;
import java.nio.file.Path;
import java.util.ArrayList;
import java.util.LinkedHashMap;
import java.util.List;
import java.util.Map;

/**
 * The sentences of the document, heading by heading. A test tells which sentence it is of by how the
 * sentence begins. A sentence without a test is a fault, and so is a test without a sentence, or one
 * that looks at nothing.
 */
final class Sentences {
    private static final Path DOCUMENT = Path.of("../shared/DOC.md");
    private static final String[] WITHOUT_A_PROMISE = {"BladeDesk", "The public face", "Terms", "Not promised"};
    private static final boolean IS_THERE = Files.isReadable(DOCUMENT);
    private static final Map<String, List<String>> LEFT = read();

    private final int promise;
    private final String heading;

    private Sentences(int promise, String heading) {
        this.promise = promise;
        this.heading = heading;
    }

    static Sentences under(int promise, String heading) {
        return new Sentences(promise, heading);
    }

    Sentences holds(String start, Runnable test) {
        Check.about(heading + ": " + start);
        if (IS_THERE) {
            Check.tell(promise, "the sentence stands in the document", "true", Boolean.toString(strike(start)));
        }
        int before = Check.done();
        try {
            test.run();
        } catch (RuntimeException e) {
            Check.tell(promise, "a call that must not throw", "no exception", e.toString());
        }
        Check.tell(promise, "the test looks at something", "true", Boolean.toString(Check.done() > before));
        Check.about("");
        return this;
    }

    private boolean strike(String start) {
        List<String> sentences = LEFT.getOrDefault(heading, new ArrayList<>());
        for (int i = 0; i < sentences.size(); i++) {
            if (sentences.get(i).startsWith(start)) {
                sentences.remove(i);
                return true;
            }
        }
        return false;
    }

    /** Looks whether each sentence of each heading got its test. */
    static void end() {
        if (!IS_THERE) {
            System.out.println("the document is not at " + DOCUMENT + ": sentences without a test are not looked for");
        }
        LEFT.forEach((heading, sentences) ->
            Check.tell(0, "sentences without a test under " + heading, "[]", sentences.toString()));
    }

    private static Map<String, List<String>> read() {
        Map<String, List<String>> sections = new LinkedHashMap<>();
        String heading = "BladeDesk";
        for (String line : lines()) {
            if (line.startsWith("#") || line.equals("Snapshots, undo")) {
                heading = line.replaceFirst("^#+ ", "");
            } else {
                addSentences(sections.computeIfAbsent(heading, key -> new ArrayList<>()), line);
            }
        }
        for (String none : WITHOUT_A_PROMISE) {
            sections.remove(none);
        }
        return sections;
    }

    private static List<String> lines() {
        try {
            return IS_THERE ? Files.readAllLines(DOCUMENT) : List.of();
        } catch (IOException e) {
            throw new IllegalStateException(e);
        }
    }

    /** Signatures (LanguageTest has them) and what the document is about are no sentences. */
    private static void addSentences(List<String> sentences, String line) {
        for (String sentence : line.split("(?<=[.:)]) (?=[A-Z(\"])")) {
            if (!sentence.isBlank() && !sentence.startsWith("`") && !sentence.startsWith("Exterior algebras")) {
                sentences.add(sentence);
            }
        }
    }
}
