package support;

import java.io.IOException;
import java.nio.file.Files;
import java.nio.file.Path;
import java.util.ArrayList;
import java.util.LinkedHashSet;
import java.util.List;
import java.util.Set;
import java.util.regex.Matcher;
import java.util.regex.Pattern;

/** The sentences of the document, so that one which no test names can be told. */
public final class Document {
    /** What stands outside the promises. */
    public static final int TERMS = 0;

    private static final Pattern HEADING = Pattern.compile("^#+ (?:Promise (\\d+): )?.*");

    private final List<Set<String>> sentences = new ArrayList<>();
    private final Set<String> unnamed = new LinkedHashSet<>();

    public Document(Path path) throws IOException {
        int part = TERMS;
        boolean isProgram = false;
        for (String line : Files.readAllLines(path)) {
            Matcher heading = HEADING.matcher(line);
            isProgram ^= line.startsWith("```");
            if (heading.matches()) {
                part = heading.group(1) == null ? TERMS : Integer.parseInt(heading.group(1));
            } else if (!isProgram && !line.startsWith("```")) {
                readLine(part, line);
            }
        }
    }

    private void readLine(int part, String line) {
        while (sentences.size() <= part) {
            sentences.add(new LinkedHashSet<>());
        }
        String text = line.replaceAll("^`[^`]*\\([^`]*`: ", "").strip();
        for (String sentence : text.split("(?<=\\.)\\s+(?=[A-Z])")) {
            if (!sentence.isEmpty() && sentences.get(part).add(sentence)) {
                unnamed.add(nameOf(part, sentence));
            }
        }
    }

    private static String nameOf(int part, String words) {
        return (part == TERMS ? "terms: " : "promise " + part + ": ") + words;
    }

    /** Notes that a test is about the sentences of a part that hold these words, and answers the test's name. */
    public String name(int part, String words) {
        boolean isThere = false;
        for (String sentence : part < sentences.size() ? sentences.get(part) : Set.<String>of()) {
            if (sentence.contains(words)) {
                isThere = true;
                unnamed.remove(nameOf(part, sentence));
            }
        }
        if (!isThere) {
            throw new IllegalArgumentException("the document does not say in part " + part + ": " + words);
        }
        return nameOf(part, words);
    }

    public Set<String> unnamed() {
        return unnamed;
    }
}
