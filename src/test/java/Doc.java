import java.io.IOException;
import java.io.UncheckedIOException;
import java.nio.file.Files;
import java.nio.file.Path;
import java.util.BitSet;
import java.util.LinkedHashMap;
import java.util.Map;

/**
 * The sentences of ../shared/DOC.md. A test names the sentence that it stands beside, word for word; in the end each
 * sentence of a part that nothing stands beside is told as a wrong answer.
 */
final class Doc {
    // .ci/run starts in the project's folder.
    private static final Path FILE = Path.of("..", "shared", "DOC.md");
    private static final String TERMS = "terms ";
    private static final String PROMISE = "promise ";
    private static final String WHAT_IT_IS = "what it is";

    private final Check check;
    private final Map<String, StringBuilder> texts = new LinkedHashMap<>();
    private final Map<String, BitSet> quoted = new LinkedHashMap<>();

    Doc(Check check) {
        this.check = check;
        String part = "";
        try {
            for (String line : Files.readAllLines(FILE)) {
                part = partBegunBy(line, part);
                boolean told = !line.startsWith("#") && !line.startsWith("```");
                texts.computeIfAbsent(part, p -> new StringBuilder()).append(told ? bare(line) + " " : "");
            }
        } catch (IOException e) {
            throw new UncheckedIOException(e);
        }
        texts.replaceAll((p, text) -> new StringBuilder(oneBlank(text.toString())));
    }

    private static String partBegunBy(String line, String part) {
        if (line.startsWith("## Terms")) {
            return TERMS + 1;
        }
        if (line.startsWith("## What it is")) {
            return WHAT_IT_IS;
        }
        if (line.startsWith("## Promise ")) {
            return PROMISE + line.substring("## Promise ".length(), line.indexOf(':'));
        }
        if (line.startsWith("==== ")) {
            return TERMS + line.charAt("==== ".length());
        }
        return line.startsWith("## ") ? line : part;
    }

    /** A line without the number of a part, or the call's face, ahead of it. */
    private static String bare(String line) {
        return line.replaceFirst("^==== [0-9]\\. ", "").replaceFirst("^`[^`]*`: ", "");
    }

    private static String oneBlank(String text) {
        return text.replaceAll("\\s+", " ");
    }

    private void mark(String part, String sentence) {
        String text = texts.getOrDefault(part, new StringBuilder()).toString();
        String sought = oneBlank(sentence);
        int at = text.indexOf(sought);
        check.same("the document says '" + sought + "' under " + part, at >= 0, true);
        if (at >= 0) {
            quoted.computeIfAbsent(part, p -> new BitSet()).set(at, at + sought.length());
        }
    }

    /** What is checked from now on stands beside a sentence of a promise. */
    void promise(int number, String sentence) {
        check.part(PROMISE + number + ", '" + sentence + "'");
        mark(PROMISE + number, sentence);
    }

    /** Likewise a sentence of one of the parts ==== 1 to ==== 5 of the terms, by the calls of some promises. */
    void terms(int part, String promises, String sentence) {
        check.part(TERMS + part + ", promises " + promises + ", '" + sentence + "'");
        mark(TERMS + part, sentence);
    }

    void whatItIs(String sentence) {
        check.part(WHAT_IT_IS + ", '" + sentence + "'");
        mark(WHAT_IT_IS, sentence);
    }

    /** A sentence that names no boundary case. */
    void noEdge(int part, String sentence) {
        mark(TERMS + part, sentence);
    }

    void endOfTerms(int part) {
        lookForLeft(TERMS + part);
    }

    void endOfPromises(int first, int last) {
        for (int i = first; i <= last; i++) {
            lookForLeft(PROMISE + i);
        }
    }

    private void lookForLeft(String part) {
        check.part(part);
        StringBuilder text = new StringBuilder(texts.getOrDefault(part, new StringBuilder("no such part")));
        BitSet beside = quoted.getOrDefault(part, new BitSet());
        for (int i = 0; i < text.length(); i++) {
            if (beside.get(i)) {
                text.setCharAt(i, ' ');
            }
        }
        String left = oneBlank(text.toString()).trim();
        check.same("no test stands beside '" + left + "': its length", left.length(), 0);
    }
}
