import java.io.IOException;
import java.nio.charset.StandardCharsets;
import java.nio.file.Files;
import java.nio.file.Path;

/** Compares answers with what is due, under the sentence of the document that asks for them. */
final class Due {
    static final int NONE = -1, BAD = -2, TORN = -3, STATE = -4, FULL = -5;

    private static final String DOCUMENT = document();
    private static String sentence = "no sentence";
    private static int sentences = 0;
    private static int wrong = 0;

    private Due() { }

    private static String document() {
        try {
            return Files.readString(Path.of("../shared/DOC.md"), StandardCharsets.UTF_8);
        } catch (IOException e) {
            return "";
        }
    }

    /** What follows tests these words, which must stand in the document just so. */
    static void sentence(String words) {
        sentence = words;
        sentences++;
        if (!DOCUMENT.contains(words)) {
            fault("the document has no such words");
        }
    }

    static void answer(String call, int got, int want) {
        if (got != want) {
            fault(call + " answered " + got + ", due is " + want);
        }
    }

    static void text(String what, String got, String want) {
        if (!got.equals(want)) {
            fault(what + " is '" + got + "', due is '" + want + "'");
        }
    }

    static void fault(String what) {
        wrong++;
        System.out.println("[" + sentence + "] " + what);
    }

    static void end() {
        System.out.println(wrong == 0 ? sentences + " sentences hold" : wrong + " answers are not as due");
        if (wrong != 0) {
            System.exit(1);
        }
    }
}
