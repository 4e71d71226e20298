import java.nio.file.DirectoryStream;
import java.nio.file.Files;
import java.nio.file.Path;
import java.util.ArrayList;
import java.util.List;
import java.util.TreeSet;
import java.util.regex.Matcher;
import java.util.regex.Pattern;

/** Each promise of the document, and each part of its terms, has a sentence that a test of edges quotes. */
public final class SentencesTest {
    private static final Pattern QUOTE = Pattern.compile("Edges\\.says\\(((?:\\s*\"(?:[^\"\\\\]|\\\\.)*\"\\s*\\+?)+)\\)");
    private static final Pattern PIECE = Pattern.compile("\"((?:[^\"\\\\]|\\\\.)*)\"");
    private static final Pattern PROMISE = Pattern.compile("## Promise (\\d+): ");

    public static void main(String[] args) throws Exception {
        String document = Files.readString(Path.of("../shared/DOC.md")).replaceAll("\\s+", " ");
        TreeSet<Integer> promises = new TreeSet<>();
        int terms = 0;
        List<String> quotes = quotes();
        for (String quote : quotes) {
            int promise = promiseAt(document, document.indexOf(quote));
            terms += promise == 0 ? 1 : 0;
            promises.add(promise);
        }
        for (int n = 1; n <= promiseAt(document, document.length()); n++) {
            Check.due("a sentence of promise " + n + " is tested", true, promises.contains(n));
        }
        Check.due("as many sentences of the terms as were found, or more: " + terms, true, terms >= 120);
        Check.end();
    }

    private static List<String> quotes() throws Exception {
        List<String> all = new ArrayList<>();
        try (DirectoryStream<Path> files = Files.newDirectoryStream(Path.of("src/test/java"), "Edges*Test.java")) {
            for (Path file : files) {
                Matcher quote = QUOTE.matcher(Files.readString(file));
                while (quote.find()) {
                    all.add(joined(quote.group(1)));
                }
            }
        }
        return all;
    }

    private static String joined(String pieces) {
        StringBuilder text = new StringBuilder();
        Matcher piece = PIECE.matcher(pieces);
        while (piece.find()) {
            text.append(piece.group(1));
        }
        return text.toString();
    }

    /** The number of the promise whose part of the document that is; 0 of what stands ahead of them all. */
    private static int promiseAt(String document, int place) {
        int promise = 0;
        Matcher heading = PROMISE.matcher(document);
        while (heading.find() && heading.start() <= place) {
            promise = Integer.parseInt(heading.group(1));
        }
        return promise;
    }
}
