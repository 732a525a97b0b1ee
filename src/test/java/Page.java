import java.io.IOException;
import java.io.UncheckedIOException;
import java.nio.file.Files;
import java.nio.file.Path;

/**
 * The words of the document from one heading up to another, read from the first to the last: a test that goes along
 * with them cannot leave out a sentence, and finds out when the document says something else than the test.
 */
final class Page {
    private static final String DOCUMENT = read();
    private static final String ALL = plain(DOCUMENT);

    private final String words;
    private int at;
    private String latest = "";

    Page(String from, String to) {
        int begin = DOCUMENT.indexOf("\n## " + from + "\n");
        int end = DOCUMENT.indexOf("\n## " + to + "\n");
        if (begin < 0 || end < begin) {
            Expect.fault("the document has nothing from '" + from + "' to '" + to + "'");
            words = "";
            return;
        }
        words = plain(DOCUMENT.substring(begin, end + 1));
    }

    private static String read() {
        try {
            return Files.readString(Path.of("../shared/DOC.md"));
        } catch (IOException e) {
            throw new UncheckedIOException(e);
        }
    }

    /** Without headings and signatures (RulesTest compares those), on one line. */
    private static String plain(String part) {
        StringBuilder all = new StringBuilder();
        for (String line : part.split("\n")) {
            boolean isSignature = line.matches("`.*\\(.*\\).*`");
            if (!line.startsWith("#") && !isSignature) {
                all.append(line).append(' ');
            }
        }
        return all.toString().replace("`", "").replaceAll("\\s+", " ").trim();
    }

    /** Whether these words stand anywhere in the document. */
    static boolean isSaid(String sentence) {
        return ALL.contains(sentence);
    }

    /** The document goes on with this sentence, which calls can show. */
    Run says(String sentence) {
        tells(sentence);
        return new Run(sentence);
    }

    /** One more run for the latest sentence. */
    Run again() {
        return new Run(latest);
    }

    /** The document goes on with these words, of which no call can show anything. */
    void tells(String sentence) {
        latest = sentence;
        if (!words.startsWith(sentence, at)) {
            int end = Math.min(words.length(), at + sentence.length());
            Expect.fault("the document says '" + words.substring(at, end) + "', not '" + sentence + "'");
            return;
        }
        at += sentence.length();
        while (at < words.length() && words.charAt(at) == ' ') {
            at++;
        }
    }

    void ends() {
        Expect.due("words of the document that are left", words.length() - at, 0);
    }
}
