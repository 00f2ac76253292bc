import java.io.IOException;
import java.nio.file.Files;
import java.nio.file.Path;

/** The sentences of ../shared/DOC.md by promises (0: 'Terms'), with a note of those that a test has named. */
final class Document {
    static final int PROMISES = 44;
    private static final Path PATH = Path.of("../shared/DOC.md");

    private final String[] sections = new String[PROMISES + 1];
    private final boolean[][] named = new boolean[PROMISES + 1][];

    private Document(String doc) {
        for (int promise = 0; promise <= PROMISES; promise++) {
            sections[promise] = promise == 0 ? terms(doc) : promise(doc, promise);
            named[promise] = new boolean[sections[promise].length()];
        }
    }

    /** Null without a document: then the tests of sentences go on without it. */
    static Document read() throws IOException {
        return Files.exists(PATH) ? new Document(Files.readString(PATH)) : null;
    }

    private static String section(String doc, String heading) {
        int from = doc.indexOf(heading);
        int to = doc.indexOf("\n## ", from + 1);
        return from < 0 ? "" : doc.substring(from + heading.length(), to < 0 ? doc.length() : to);
    }

    /** Headings of parts of the interface say nothing by themselves, but for what some say in brackets. */
    private static String terms(String doc) {
        String uses = doc.lines().filter(line -> line.startsWith("An object is used")).findFirst().orElse("");
        return plain(uses + " " + section(doc, "\n## Terms\n")
                .replaceAll("Ahead of the calls [^:]*: ---- [^(\n]*\n", "")
                .replaceAll("Ahead of the calls [^:]*: ---- \\d", "")
                .replaceAll("======== \\d", "").replaceAll("```(text)?", ""));
    }

    private static String promise(String doc, int promise) {
        return plain(section(doc, "\n## Promise " + promise + ":").replaceFirst("(?s)^.*?`: ", ""));
    }

    private static String plain(String text) {
        return text.replaceAll("\\s+", " ").trim();
    }

    /** Whether the promise has the sentence; it is named then. */
    boolean name(int promise, String sentence) {
        int at = sections[promise].indexOf(sentence);
        for (int from = at; from >= 0; from = sections[promise].indexOf(sentence, from + 1)) {
            for (int i = from; i < from + sentence.length(); i++) {
                named[promise][i] = true;
            }
        }
        return at >= 0;
    }

    /** What of a promise no test has named; "" if all was. */
    String unnamed(int promise) {
        StringBuilder rest = new StringBuilder();
        for (int i = 0; i < sections[promise].length(); i++) {
            rest.append(named[promise][i] ? ' ' : sections[promise].charAt(i));
        }
        String left = plain(rest.toString());
        return left.matches(".*\\w.*") ? left : "";
    }
}
