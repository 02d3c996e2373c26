import java.io.IOException;
import java.nio.charset.StandardCharsets;
import java.nio.file.Files;
import java.nio.file.Path;
import java.util.TreeMap;

/**
 * Tests that each stand for a sentence of the document, which they quote. A quote that the document does not
 * have is a mistake, and so is a sentence of the document that no test quotes.
 */
final class Edges {
    /** The sections: "What it is", "Terms" (with ==== 2. and ==== 3.), and each promise by its number. */
    static final int WHAT = -1;
    static final int TERMS = 0;
    private static final int PROMISES = 40;
    private static final Path DOCUMENT = Path.of("../shared/DOC.md");

    private static final TreeMap<Integer, String> TEXTS = new TreeMap<>();
    private static final TreeMap<Integer, boolean[]> QUOTED = new TreeMap<>();
    private static int tests = 0;

    private Edges() { }

    /** One test of its own; what it throws counts as a wrong answer, and the next one goes on. */
    static void edge(int section, String quote, Runnable test) {
        tests++;
        mark(section, quote);
        int before = Texts.wrong;
        try {
            test.run();
        } catch (RuntimeException e) {
            Texts.due("the test threw " + e, 1, 0);
        }
        if (Texts.wrong > before) {
            System.out.println("  .. of promise " + section + " (0: Terms): " + quote);
        }
    }

    static void readDocument() throws IOException {
        if (!Files.exists(DOCUMENT)) {
            System.out.println("no " + DOCUMENT + ": quotes are not looked up");
            return;
        }
        int section = Integer.MIN_VALUE;
        for (String line : Files.readString(DOCUMENT, StandardCharsets.UTF_8).split("\n")) {
            if (line.startsWith("## ")) {
                section = numberOf(line);
            } else if (section >= WHAT && !line.startsWith("```")) {
                TEXTS.merge(section, line, (a, b) -> a + " " + b);
            }
        }
        TEXTS.replaceAll((s, text) -> text.replaceAll("`[^`]*`", " ").replaceAll("\\s+", " "));
        TEXTS.forEach((s, text) -> QUOTED.put(s, new boolean[text.length()]));
    }

    private static int numberOf(String heading) {
        if (heading.startsWith("## Promise ")) {
            return Integer.parseInt(heading.substring(11, heading.indexOf(':')));
        }
        return heading.equals("## Terms") ? TERMS : heading.equals("## What it is") ? WHAT : Integer.MIN_VALUE;
    }

    private static void mark(int section, String quote) {
        if (TEXTS.isEmpty()) {
            return;
        }
        String text = TEXTS.getOrDefault(section, "");
        int at = text.indexOf(quote);
        Texts.due("the document does not have, in " + section + ": " + quote, at < 0, false);
        while (at >= 0) {
            java.util.Arrays.fill(QUOTED.get(section), at, at + quote.length(), true);
            at = text.indexOf(quote, at + 1);
        }
    }

    /** What has letters or digits and stands in no quote. */
    static void finish() {
        for (int section = TERMS; section <= PROMISES && !TEXTS.isEmpty(); section++) {
            String text = TEXTS.getOrDefault(section, "");
            Texts.due("the document has no section " + section, text.isEmpty(), false);
            StringBuilder rest = new StringBuilder();
            for (int i = 0; i < text.length(); i++) {
                rest.append(QUOTED.get(section)[i] ? '|' : text.charAt(i));
            }
            for (String part : rest.toString().split("\\|+")) {
                boolean said = part.chars().anyMatch(Character::isLetterOrDigit) && !part.matches(" ?==== \\d\\. ?");
                Texts.due("no test quotes, in " + section + ": " + part, said, false);
            }
        }
        System.out.println("EdgeTest: " + tests + " tests");
    }
}
