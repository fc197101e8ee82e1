import java.io.IOException;
import java.nio.file.Files;
import java.nio.file.Path;

/** Each sentence of the document by a test of its own; and every sentence of the document has one. */
public final class SentencesTest {
    private static final Path DOCUMENT = Path.of("../shared/DOC.md");

    public static void main(String[] args) throws IOException {
        Checks c = new Checks();
        new SentencesOfTerms(c).all();
        new SentencesOfRunning(c).all();
        new SentencesOfChanges(c).all();
        new SentencesOfAnswers(c).all();
        if (Files.exists(DOCUMENT)) {
            everySentenceHasATest(c, Files.readString(DOCUMENT));
        } else {
            System.out.println("there is no " + DOCUMENT + " to compare the sentences with");
        }
        c.end();
    }

    private static void everySentenceHasATest(Checks c, String document) {
        String whole = plain(document);
        String promised = plain(document.substring(document.indexOf("## Terms"), document.indexOf("## Not promised")));
        boolean[] tested = new boolean[promised.length()];
        for (String sentence : c.sentences()) {
            c.due("it stands in the document: " + sentence, whole.contains(sentence), true);
            for (int at = promised.indexOf(sentence); at >= 0; at = promised.indexOf(sentence, at + 1)) {
                java.util.Arrays.fill(tested, at, at + sentence.length(), true);
            }
        }
        StringBuilder untested = new StringBuilder();
        for (int k = 0; k < tested.length; k++) {
            untested.append(tested[k] ? ' ' : promised.charAt(k));
        }
        String left = untested.toString().trim().replaceAll(" {2,}", " .. ");
        c.due("sentences without a test: " + left, left.isEmpty(), true);
    }

    /** The document's sentences alone, without headings, marks and the methods' heads, in one line. */
    private static String plain(String markdown) {
        return markdown.replaceAll("(?m)^#.*$", "").replaceAll("(?m)^```.*$", "").replaceAll("`[^`]*`: ", "")
            .replaceAll("\\s+", " ").trim();
    }
}
