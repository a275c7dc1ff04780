import java.io.IOException;
import java.io.UncheckedIOException;
import java.nio.file.Files;
import java.nio.file.Path;

/**
 * The document's sentences, quoted by the tests in its order, from its first line to its last.
 * Each quote must stand in the document right behind the one ahead; each must have an answer asked.
 */
final class Doc {
    private static final Path PLACE = Path.of("../shared/DOC.md");
    private static final String FIRST = "An object is used for", LAST = "## Not promised";
    private static final String DOCUMENT = read();
    private static int quotedTo = 0;
    private static String place = "";
    private static String sentence = "";
    private static int askedHere = 1;
    private static int sentences = 0;
    private static int asked = 0;
    private static int wrong = 0;

    private Doc() { }

    /** The document without headings, fences of code, signatures ahead of promises; blanks made alike. */
    private static String read() {
        if (!Files.exists(PLACE)) {
            System.out.println("no " + PLACE + ": the quotes are not compared with the document");
            return "";
        }
        try {
            String all = Files.readString(PLACE);
            String part = all.substring(all.indexOf(FIRST), all.indexOf(LAST));
            String bare = part.replaceAll("(?m)^((#|```).*|==== \\d)", " ").replaceAll("`[^`\\n]*\\([^`\\n]*`:", " ");
            return alike(bare);
        } catch (IOException e) {
            throw new UncheckedIOException(e);
        }
    }

    private static String alike(String s) {
        return s.replaceAll("\\s+", " ").strip();
    }

    private static void fail(String why) {
        wrong++;
        System.out.println(why);
    }

    private static boolean tells(String gap) {
        return gap.chars().anyMatch(Character::isLetterOrDigit);
    }

    /** What follows is the test of this sentence of the document. */
    static void says(String where, String words) {
        closeSentence();
        place = where;
        sentence = words;
        askedHere = 0;
        sentences++;
        if (DOCUMENT.isEmpty()) return;
        String quote = alike(words);
        int found = DOCUMENT.indexOf(quote, quotedTo);
        if (found < 0) {
            fail(where + ": \"" + words + "\" does not stand in the document behind what was quoted");
            return;
        }
        String gap = DOCUMENT.substring(quotedTo, found);
        if (tells(gap)) fail("no test is told for: " + gap);
        quotedTo = found + quote.length();
    }

    static void says(int promise, String words) {
        says("promise " + promise, words);
    }

    private static void closeSentence() {
        if (askedHere == 0) fail(place + ": \"" + sentence + "\" has no test");
    }

    static void due(long got, long want) {
        asked++;
        askedHere++;
        if (got != want) {
            fail(place + ": \"" + sentence + "\" " + line() + ": answered " + got + ", due is " + want);
        }
    }

    private static String line() {
        return StackWalker.getInstance().walk(all -> all
                .filter(f -> !f.getClassName().equals("Doc") && !f.getClassName().equals("Twins")
                        && !f.getClassName().equals("DocPart"))
                .findFirst().map(f -> f.getFileName() + ":" + f.getLineNumber()).orElse("?"));
    }

    static int wrongs() {
        return wrong;
    }

    /** Closes the last sentence: how many answers or quotes were wrong. */
    static int end() {
        closeSentence();
        String rest = DOCUMENT.isEmpty() ? "" : DOCUMENT.substring(quotedTo);
        if (tells(rest)) fail("no test is told for: " + rest);
        System.out.println(sentences + " sentences, " + asked + " answers asked, " + wrong + " wrong");
        return wrong;
    }
}
