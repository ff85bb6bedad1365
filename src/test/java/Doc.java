import java.io.IOException;
import java.io.UncheckedIOException;
import java.nio.file.Files;
import java.nio.file.Path;
import java.util.ArrayList;
import java.util.BitSet;
import java.util.List;

/**
 * The document's sentences, by promise (0: all that is told ahead of promise 1), and which of them were quoted.
 * Where the document is not at hand, all quotes are taken as right: the answers can be tested without it.
 */
final class Doc {
    static final int PROMISES = 37;
    private static final Path PLACE = Path.of("../shared/DOC.md");

    private final List<String> texts = new ArrayList<>();
    private final List<BitSet> quoted = new ArrayList<>();

    Doc() {
        if (Files.exists(PLACE)) {
            split();
        } else {
            System.out.println("there is no " + PLACE + ": quotes are not looked at");
        }
    }

    private void split() {
        String[] parts = read().split("## Promise \\d+: [^\n]*\n|## Not promised");
        texts.add(terms(parts[0]));
        for (int promise = 1; promise <= PROMISES; promise++) {
            String text = parts[promise].strip();
            texts.add(oneLine(text.substring(text.indexOf("`: ") + 3)));
        }
        for (String text : texts) {
            quoted.add(new BitSet(text.length()));
        }
    }

    private static String read() {
        try {
            return Files.readString(PLACE);
        } catch (IOException e) {
            throw new UncheckedIOException(e);
        }
    }

    private static String oneLine(String text) {
        return text.replaceAll("\\s+", " ").strip();
    }

    /** Without headings, the words in front of section 1, and the list of the methods. */
    private static String terms(String text) {
        StringBuilder kept = new StringBuilder();
        for (String line : text.split("\n")) {
            boolean heading = line.startsWith("#") || line.startsWith("```") || line.startsWith("Ahead of the calls");
            boolean face = line.startsWith("public") || line.startsWith("}")
                    || (line.startsWith("    public") && !line.contains("static final"));
            if (!heading && !face) {
                kept.append(line.replaceFirst("^Runs of processes.*?========", "")).append('\n');
            }
        }
        return oneLine(kept.toString());
    }

    /** Whether the words stand there. */
    boolean quote(int promise, String words) {
        if (texts.isEmpty()) {
            return true;
        }
        String text = texts.get(promise);
        boolean found = false;
        for (int at = text.indexOf(words); at >= 0; at = text.indexOf(words, at + 1)) {
            quoted.get(promise).set(at, at + words.length());
            found = true;
        }
        return found;
    }

    /** What no test has quoted. */
    String left(int promise) {
        if (texts.isEmpty()) {
            return "";
        }
        StringBuilder left = new StringBuilder(texts.get(promise));
        for (int at = 0; at < left.length(); at++) {
            if (quoted.get(promise).get(at) || !Character.isLetterOrDigit(left.charAt(at))) {
                left.setCharAt(at, ' ');
            }
        }
        return oneLine(left.toString());
    }
}
