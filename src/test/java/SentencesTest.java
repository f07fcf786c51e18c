import java.io.IOException;
import java.nio.charset.StandardCharsets;
import java.nio.file.Files;
import java.nio.file.Path;
import java.util.regex.Matcher;
import java.util.regex.Pattern;

/**
 * The sentences that stand in quotes ahead of the tests of edges are the document's own, and together they are all that
 * it says in 'Terms' and in its promises: so each sentence is found in the tests, and each test in the document.
 */
public final class SentencesTest {
    private static final String[] TESTS = {"FloorEdgesTest", "TextEdgesTest", "StandEdgesTest", "PromiseEdgesTest",
        "RefusalsTest"};
    private static final Pattern REMARK = Pattern.compile("(?s)/\\*\\*.*?\\*/");
    private static final Pattern QUOTE = Pattern.compile("\"([^\"]+)\"");

    private static final int LONG = 20;

    private final String document;
    private final boolean[] isQuoted;

    private SentencesTest(String document) {
        this.document = document;
        isQuoted = new boolean[document.length()];
    }

    public static void main(String[] args) throws IOException {
        SentencesTest test = new SentencesTest(sentences(read("../shared/DOC.md")));
        for (String name : TESTS) {
            test.quotesOf(name, read("src/test/java/" + name + ".java"));
        }
        test.allIsQuoted();
        Due.end("SentencesTest");
    }

    private static String read(String path) throws IOException {
        return new String(Files.readAllBytes(Path.of(path)), StandardCharsets.UTF_8);
    }

    /** What the document promises, without its headings, the face's own lines and the signs that mark up its parts. */
    private static String sentences(String whole) {
        int first = whole.indexOf("## Terms");
        int behind = whole.indexOf("## Not promised");
        int use = whole.indexOf("An object is used for at most 512 calls");
        boolean isWhole = use >= 0 && first > use && behind > first;
        Due.is("the document begins, has 'Terms', and ends with 'Not promised'", isWhole ? 1 : 0, 1);
        if (!isWhole) {
            return "";
        }
        String ahead = whole.substring(use, whole.indexOf("\n", use));
        String text = ahead + "\n" + whole.substring(first, behind);
        text = text.replaceAll("(?m)^#.*$", "").replaceAll("(?m)^```.*$", "");
        text = text.replaceAll("(?m)^==== [0-9] ", "").replaceAll("(?m)^`[^`]*`: ", "");
        text = text.replaceAll("(?m)^Ahead of the calls .*$", "");
        return text.replaceAll("\\s+", " ");
    }

    private void quotesOf(String name, String source) {
        Matcher remark = REMARK.matcher(source);
        while (remark.find()) {
            String text = remark.group().replaceAll("\n *\\* ?", " ").replaceAll("\\s+", " ");
            Matcher quote = QUOTE.matcher(text);
            while (quote.find()) {
                quoted(name, quote.group(1));
            }
        }
    }

    /** Of a sentence that stands in the document twice each quote tells of the next place; short ones tell of none. */
    private void quoted(String name, String quote) {
        int at = document.indexOf(quote);
        Due.is(name + " quotes the document: " + quote, at >= 0 ? 1 : 0, 1);
        boolean isOne = at >= 0 && document.indexOf(quote, at + 1) < 0;
        if (at < 0 || !isOne && quote.length() < LONG) {
            return;
        }
        while (isQuoted[at] && document.indexOf(quote, at + 1) >= 0) {
            at = document.indexOf(quote, at + 1);
        }
        for (int i = at; i < at + quote.length(); i++) {
            isQuoted[i] = true;
        }
    }

    private void allIsQuoted() {
        for (int i = 0; i < document.length(); i++) {
            int from = i;
            StringBuilder missed = new StringBuilder();
            while (i < document.length() && !isQuoted[i]) {
                missed.append(document.charAt(i));
                i++;
            }
            if (!missed.toString().matches("[ .;,:]*")) {
                Due.is("no test quotes, at " + from + ": " + missed, 1, 0);
            }
        }
    }
}
