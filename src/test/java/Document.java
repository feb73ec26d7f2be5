import java.io.IOException;
import java.io.UncheckedIOException;
import java.nio.file.Files;
import java.nio.file.Path;
import java.util.regex.Matcher;
import java.util.regex.Pattern;

/** The document's words: what is told under "What it is" and "Terms", and of each promise. */
final class Document {
    static final int PROMISES = 48;
    /** Stands for "What it is", "Terms", REFUSALS and Details where a promise's number is asked. */
    static final int TERMS = 0;

    private static final String[] SECTIONS = read();

    private Document() {
    }

    /** A section's words, each blank and line's end as one blank. */
    static String section(int promise) {
        return SECTIONS[promise];
    }

    static boolean tells(int promise, String words) {
        return promise >= 0 && promise <= PROMISES && SECTIONS[promise].contains(words);
    }

    private static String[] read() {
        String text;
        try {
            text = Files.readString(Path.of("../shared/DOC.md"));
        } catch (IOException e) {
            throw new UncheckedIOException(e);
        }
        String[] sections = new String[PROMISES + 1];
        sections[TERMS] = plain(between(text, "## What it is", "## The public face")
            + between(text, "## Terms", "## Promise 1:"));
        Matcher promise = Pattern.compile("(?s)## Promise (\\d+):[^\n]*\n(.*?)(?=\n## )").matcher(text);
        while (promise.find()) {
            sections[Integer.parseInt(promise.group(1))] =
                plain(promise.group(2).replaceFirst("`[^`]*`:", ""));
        }
        return sections;
    }

    private static String between(String text, String begin, String end) {
        int from = text.indexOf(begin) + begin.length();
        return text.substring(from, text.indexOf(end, from));
    }

    private static String plain(String text) {
        return text.replaceAll("```(text)?", " ").replaceAll("(?m)^====.*$", " ")
            .replaceAll("\\s+", " ").trim();
    }
}
