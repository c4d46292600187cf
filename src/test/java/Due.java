import java.io.IOException;
import java.nio.charset.StandardCharsets;
import java.nio.file.Files;
import java.nio.file.Path;

/** Compares answers with those that are due, and ends a test. */
final class Due {
    private static final Path DOCUMENT = Path.of("../shared/DOC.md");
    /** At the boundary, one short of it and one beyond it. */
    private static final int FEWEST_OF_A_SENTENCE = 3;

    private static int asked = 0;
    private static int wrong = 0;
    private static int sentences = 0;
    private static String sentence = null;
    private static int askedBefore = 0;
    private static String document = null;

    private Due() {
    }

    static void is(String call, long got, long want) {
        asked++;
        if (got != want) {
            tellWrong(call + " answered " + got + ", due is " + want);
        }
    }

    static void is(String call, String got, String want) {
        asked++;
        if (!got.equals(want)) {
            tellWrong(call + " answered " + got + ", due is " + want);
        }
    }

    /** Begins the tests of a sentence, or of a part of one, which has to stand in the document so. */
    static void sentence(String words) {
        endSentence();
        sentence = words;
        sentences++;
        if (!document().isEmpty() && !document().contains(words)) {
            tellWrong("the document does not say this");
        }
        askedBefore = asked;
    }

    private static void endSentence() {
        if (sentence != null && asked - askedBefore < FEWEST_OF_A_SENTENCE) {
            tellWrong("too few answers are asked for this");
        }
        sentence = null;
    }

    private static void tellWrong(String what) {
        wrong++;
        System.out.println((sentence == null ? "" : "\"" + sentence + "\": ") + what);
    }

    /** The document, or "" where it is not there: the answers can be looked at without it. */
    private static String document() {
        if (document == null) {
            try {
                document = Files.readString(DOCUMENT, StandardCharsets.UTF_8);
            } catch (IOException e) {
                System.out.println("the sentences are not looked up: " + e);
                document = "";
            }
        }
        return document;
    }

    static void end() {
        endSentence();
        System.out.println((sentences > 0 ? sentences + " sentences, " : "") + asked + " answers, " + wrong + " of them wrong");
        if (wrong > 0 || asked == 0) {
            System.exit(1);
        }
    }
}
