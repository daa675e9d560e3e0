import java.io.IOException;
import java.nio.file.Files;
import java.nio.file.Path;
import java.util.LinkedHashMap;
import java.util.Map;

/**
 * Tests that each belong to one sentence of the document. A sentence must stand in the document word
 * for word, so that a test can't ask for what nobody promised; and no word of the terms and promises
 * may be left without a test, so that a new sentence can't be overlooked.
 */
final class Sentences {
    private static final Path DOCUMENT = Path.of("../shared/DOC.md");

    final Kit kit;
    private final Map<String, Section> sections = new LinkedHashMap<>();
    private int tests = 0;

    Sentences(String test) {
        kit = new Kit(test);
        readDocument();
    }

    /** Runs the test of one sentence. The section is "Terms", "Promise 3" or another heading. */
    void test(String section, String words, Runnable test) {
        tests++;
        kit.about(section + " \"" + words + "\"");
        Section place = sections.get(section);
        kit.holds("the document says so", place != null && place.quote(words));
        int before = kit.compared();
        try {
            test.run();
        } catch (RuntimeException thrown) {
            kit.holds("no exception, but there was " + thrown, false);
        }
        kit.holds("something was asked", kit.compared() > before);
        kit.about("");
    }

    void close() {
        for (Map.Entry<String, Section> entry : sections.entrySet()) {
            String heading = entry.getKey();
            if (heading.equals("Terms") || heading.startsWith("Promise")) {
                String left = entry.getValue().notQuoted();
                kit.holds(heading + " has no words without a test: " + left, left.isEmpty());
            }
        }
        System.out.println(tests + " sentences of the document have a test of their own");
        kit.close();
    }

    private void readDocument() {
        StringBuilder text = new StringBuilder();
        String heading = "";
        for (String line : lines()) {
            if (line.startsWith("## ")) {
                sections.put(heading, new Section(text.toString()));
                text.setLength(0);
                heading = line.substring(3).split(":")[0];
            } else if (!line.startsWith("```")) {
                text.append(line).append(' ');
            }
        }
        sections.put(heading, new Section(text.toString()));
    }

    private static Iterable<String> lines() {
        try {
            return Files.readAllLines(DOCUMENT);
        } catch (IOException thrown) {
            throw new IllegalStateException("the document can't be read", thrown);
        }
    }

    /** The text under one heading, and which of it was quoted. */
    private static final class Section {
        private final String text;
        private final boolean[] quoted;

        Section(String written) {
            text = written.trim().replaceAll("\\s+", " ");
            quoted = new boolean[text.length()];
        }

        boolean quote(String words) {
            int at = text.indexOf(words);
            for (int i = at; at >= 0 && i < at + words.length(); i++) {
                quoted[i] = true;
            }
            return at >= 0;
        }

        String notQuoted() {
            StringBuilder left = new StringBuilder();
            for (int i = 0; i < quoted.length; i++) {
                if (!quoted[i] && !Character.isWhitespace(text.charAt(i))) {
                    left.append(text.charAt(i));
                }
            }
            return left.toString();
        }
    }
}
