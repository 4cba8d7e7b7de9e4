import java.io.IOException;
import java.nio.file.Files;
import java.nio.file.Path;

/** What tests of the document's single sentences share: each is told with its promise and its words. */
abstract class Bounds {
    static final String OFF = "UnsupportedOperationException";
    static final String INDEX = "IndexOutOfBoundsException";
    static final String ARGUMENT = "IllegalArgumentException";
    static final String STATE = "IllegalStateException";
    private String sentence = "";
    private String document = null;
    private int sentences = 0;
    private int wrong = 0;

    abstract void all();

    /** A promise's number, or Terms and what promises rest on it; the words as the document has them. */
    final void says(String promise, String words, Runnable test) {
        sentence = "promise " + promise + ", \"" + words + "\"";
        sentences++;
        if (document != null && !section(promise).contains(words)) {
            report("the document has no such words there");
        }
        test.run();
    }

    /** What the document has under a promise's heading, or under that of the terms. */
    private String section(String promise) {
        if (promise.startsWith("(")) {
            return document;
        }
        String heading = promise.startsWith("Terms") ? "## Terms" : "## Promise " + promise + ":";
        int from = document.indexOf(heading);
        int to = document.indexOf("## ", from + heading.length());
        return from < 0 || to < 0 ? "" : document.substring(from, to);
    }

    final Run on(int blocks, int journal) {
        return new Run(blocks, journal, this::report);
    }

    final void report(String text) {
        wrong++;
        System.out.println(sentence + ": " + text);
    }

    /** With a document's path as argument the sentences' words are looked for in it, too. */
    final void begin(String[] args) throws IOException {
        if (args.length > 0) {
            document = Files.readString(Path.of(args[0])).replaceAll("\\s+", " ");
        }
        all();
        System.out.println(sentences + " sentences, " + wrong + " wrong");
        if (wrong != 0) {
            System.exit(1);
        }
    }
}
