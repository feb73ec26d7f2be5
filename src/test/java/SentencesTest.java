import java.io.IOException;
import java.io.UncheckedIOException;
import java.nio.file.Files;
import java.nio.file.Path;
import java.util.ArrayList;
import java.util.Arrays;
import java.util.HashMap;
import java.util.List;
import java.util.Map;
import java.util.regex.Matcher;
import java.util.regex.Pattern;
import java.util.stream.Stream;

/** Each sentence of the document, from its terms to promise 48, is named by a test. */
public final class SentencesTest {
    private static final String LITERAL = "\"(?:[^\"\\\\]|\\\\.)*\"";
    private static final String LITERALS = LITERAL + "(?:\\s*\\+\\s*" + LITERAL + ")*";
    private static final Pattern CONSTANT =
        Pattern.compile("static final String (\\w+) =\\s*(" + LITERALS + ");");
    private static final Pattern NAMED =
        Pattern.compile("Due\\.sentence\\((\\d+),\\s*(\\w+|" + LITERALS + ")\\)");

    private SentencesTest() {
    }

    public static void main(String[] args) throws IOException {
        List<List<String>> named = new ArrayList<>();
        for (int promise = 0; promise <= Document.PROMISES; promise++) {
            named.add(new ArrayList<>());
        }
        try (Stream<Path> tests = Files.list(Path.of("src/test/java"))) {
            tests.filter(test -> test.toString().endsWith("Test.java")).sorted()
                .forEach(test -> collect(test, named));
        }
        Due.about("sentences that a test names");
        for (int promise = 0; promise <= Document.PROMISES; promise++) {
            compare(promise, named.get(promise));
        }
        Due.end("SentencesTest");
    }

    private static void collect(Path test, List<List<String>> named) {
        String source;
        try {
            source = Files.readString(test);
        } catch (IOException e) {
            throw new UncheckedIOException(e);
        }
        Map<String, String> constants = new HashMap<>();
        Matcher constant = CONSTANT.matcher(source);
        while (constant.find()) {
            constants.put(constant.group(1), joined(constant.group(2)));
        }
        Matcher call = NAMED.matcher(source);
        while (call.find()) {
            String words = call.group(2);
            named.get(Integer.parseInt(call.group(1))).add(
                words.startsWith("\"") ? joined(words) : constants.getOrDefault(words, words));
        }
    }

    private static String joined(String literals) {
        return literals.replaceAll("\"\\s*\\+\\s*\"", "").replaceAll("^\"|\"$", "");
    }

    private static void compare(int promise, List<String> named) {
        String section = Document.section(promise);
        boolean[] covered = new boolean[section.length()];
        for (String words : named) {
            for (int at = section.indexOf(words); at >= 0; at = section.indexOf(words, at + 1)) {
                Arrays.fill(covered, at, at + words.length(), true);
            }
        }
        StringBuilder left = new StringBuilder();
        for (int i = promise == 0 ? section.indexOf("An object is used") : 0; i < covered.length; i++) {
            left.append(covered[i] ? ' ' : section.charAt(i));
        }
        String unnamed = left.toString().replace("Details.", "").trim().replaceAll(" +", " ");
        Due.holds("of promise " + promise + " (0: terms) all is named but for '" + unnamed + "'",
            unnamed.isEmpty());
    }
}
