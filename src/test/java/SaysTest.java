import java.io.IOException;
import java.lang.reflect.Method;
import java.nio.file.Files;
import java.nio.file.Path;
import java.util.Arrays;

/** Each test says words that stand in ../shared/DOC.md, and all words of the Terms and of each promise are said. */
public final class SaysTest {
    private static final Path DOCUMENT = Path.of("../shared/DOC.md");
    private static final int PROMISES = 36;
    private static final Class<?>[] CASES = {TermsTest.class, RowsTest.class, TextsTest.class, ActsTest.class,
        TurnedTest.class, ForetoldTest.class, AskedTest.class, TwoWaysTest.class};

    private final Check check = new Check("says");
    private final String document;

    private SaysTest(String document) {
        this.document = document;
    }

    public static void main(String[] args) throws IOException {
        if (!Files.exists(DOCUMENT)) {
            System.out.println("says: no document here, so no words are looked up");
            return;
        }
        SaysTest test = new SaysTest(Files.readString(DOCUMENT));
        test.quotesStandThere();
        test.allIsSaid("the Terms", test.terms(), "");
        for (int promise = 1; promise <= PROMISES; promise++) {
            test.allIsSaid("promise " + promise, test.promise(promise), String.format("p%02d_", promise));
        }
        test.check.end();
    }

    private static String flat(String text) {
        return text.replaceAll("\\s+", " ");
    }

    private String part(String from, String to) {
        int start = document.indexOf(from);
        int end = start < 0 ? -1 : document.indexOf(to, start + from.length());
        check.that("that there is a part '" + from.trim() + "'", start >= 0 && end >= 0);
        return start < 0 || end < 0 ? "" : document.substring(start + from.length(), end);
    }

    /** Without the fences, the numbers of the parts, and what only tells under which heading the calls stand. */
    private String terms() {
        String terms = part("\n## Terms\n", "\n## Promise 1:");
        return flat(terms.replaceAll("(?m)^```.*$", "").replaceAll("(?m)^=+ \\d ", "").replaceAll("(?m)^Ahead of the calls.*$", ""));
    }

    private String promise(int number) {
        String to = number == PROMISES ? "\n## Not promised" : "\n## Promise " + (number + 1) + ":";
        return flat(part("\n## Promise " + number + ":", to).replaceFirst("^.*\n", "").replaceFirst("`[^`]*`: ", ""));
    }

    private void quotesStandThere() {
        String all = flat(document);
        for (Class<?> cases : CASES) {
            for (Method test : Cases.testsOf(cases)) {
                for (String quote : test.getAnnotation(Says.class).value()) {
                    String name = test.getName();
                    boolean promised = name.matches("p\\d\\d_.*");
                    String where = promised ? promise(Integer.parseInt(name.substring(1, 3)))
                            : name.startsWith("face_") ? all : terms();
                    check.that(name + ": that '" + quote + "' stands there", where.contains(quote));
                }
            }
        }
    }

    /** What tests whose names begin so say is taken out; no word is to be left over. */
    private void allIsSaid(String what, String text, String prefix) {
        boolean[] said = new boolean[text.length()];
        for (Class<?> cases : CASES) {
            for (Method test : Cases.testsOf(cases)) {
                for (String quote : test.getAnnotation(Says.class).value()) {
                    for (int i = text.indexOf(quote); i >= 0 && test.getName().startsWith(prefix); i = text.indexOf(quote, i + 1)) {
                        Arrays.fill(said, i, i + quote.length(), true);
                    }
                }
            }
        }
        StringBuilder left = new StringBuilder();
        for (int i = 0; i < said.length; i++) {
            left.append(said[i] ? '_' : text.charAt(i));
        }
        String words = left.toString().replaceAll("_+", " _ ");
        check.that(what + ": that all is said, but left over is " + words, !words.replace(" and ", " ").matches("(?s).*[a-zA-Z0-9].*"));
    }
}
