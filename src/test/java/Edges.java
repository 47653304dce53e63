import java.io.IOException;
import java.nio.file.Files;
import java.nio.file.Path;

/**
 * Tests of the document's sentences, each under the words that it tests. The words must stand in the document where the
 * test says, and at the end no word of what was opened may be left without a test.
 */
final class Edges {
    /** A test of some words of the document. */
    interface Test {
        void run(Calls calls);
    }

    private final String document;
    private final boolean[] tested;
    private int from = 0;
    private int to = 0;
    private int tests = 0;
    private int wrong = 0;

    Edges(Path path) throws IOException {
        document = Files.readString(path).replace("```text", " ").replace("```", " ").replaceAll("\\s+", " ");
        tested = new boolean[document.length()];
    }

    /** Opens what stands between two marks: each word of it is to be tested. */
    void open(String first, String behind) {
        from = document.indexOf(first) + first.length();
        to = document.indexOf(behind, from);
        if (from < first.length() || to < 0) {
            throw new IllegalStateException("the document has nothing between " + first + " and " + behind);
        }
        for (int i = from - first.length(); i < from; i++) {
            tested[i] = true;
        }
    }

    /** Opens a promise, from behind its heading and its face on. */
    void promise(int number) {
        open("## Promise " + number + ":", number == 46 ? "## Not promised" : "## Promise " + (number + 1) + ":");
        int words = document.indexOf("`: ", from) + 3;
        for (int i = from; i < words; i++) {
            tested[i] = true;
        }
        from = words;
    }

    void edge(String words, Test test) {
        int at = document.indexOf(words, from);
        if (at < 0 || at + words.length() > to) {
            say(words, "do not stand there in the document");
            return;
        }
        for (int i = at; i < at + words.length(); i++) {
            tested[i] = true;
        }
        tests++;
        Calls calls = new Calls("\"" + words + "\"");
        test.run(calls);
        if (calls.asked() == 0) {
            say(words, "have a test that asks nothing");
        }
        wrong += calls.wrong();
    }

    private void say(String words, String what) {
        wrong++;
        System.out.println("\"" + words + "\" " + what);
    }

    /** Says which words between two marks no test has. */
    void dueAllTested(String first, String last) {
        int i = document.indexOf(first);
        int end = document.indexOf(last, i);
        while (i < end) {
            if (tested[i] || !Character.isLetterOrDigit(document.charAt(i))) {
                i++;
                continue;
            }
            int start = i;
            while (i < end && !tested[i]) {
                i++;
            }
            say(document.substring(start, i).trim(), "have no test of their own");
        }
    }

    /** Ends the test: with exit code 1 if an answer was not as due, or words have no test. */
    void end(String title) {
        System.out.println(title + ": " + tests + " tests, " + wrong + " not as due");
        if (wrong != 0) {
            System.exit(1);
        }
    }
}
