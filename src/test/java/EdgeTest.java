import java.nio.file.Files;
import java.nio.file.Path;
import java.util.List;

/** The edges that the document names: src/test/edges.txt goes through it sentence by sentence, with runs for each. */
public final class EdgeTest {
    private static final Path DOCUMENT = Path.of("../shared/DOC.md");
    private static final Path EDGES = Path.of("src/test/edges.txt");

    private static String left = "";

    public static void main(String[] args) throws Exception {
        boolean hasDocument = Files.exists(DOCUMENT);
        if (hasDocument) {
            left = sentences();
        } else {
            System.out.println("no document at " + DOCUMENT + ": its sentences are not looked for");
        }
        int runs = 1;
        for (String line : Files.readAllLines(EDGES)) {
            if (line.startsWith("> ")) {
                Due.is("runs ahead of " + line, runs > 0 ? 1 : 0, 1);
                runs = 0;
                if (hasDocument) {
                    leave(line.substring(2));
                }
            } else if (!line.isBlank() && !line.startsWith("#")) {
                runs++;
                Runs.run(line);
            }
        }
        Due.is("runs at the end", runs > 0 ? 1 : 0, 1);
        passedOver(left);
        Due.end();
    }

    /** From the first sentence that names a number to the last promise, without headings. */
    private static String sentences() throws Exception {
        List<String> lines = Files.readAllLines(DOCUMENT);
        StringBuilder text = new StringBuilder();
        boolean isIn = false;
        for (String line : lines) {
            if (line.startsWith("## ")) {
                isIn = line.equals("## Terms") || line.startsWith("## Promise ");
            } else if ((isIn || line.startsWith("An object is used")) && !line.startsWith("```")) {
                text.append(line).append(' ');
            }
        }
        return text.toString().replace("==== II.", "").replaceAll("\\s+", " ");
    }

    /** Quotes come in the document's order, so that each sentence must have its own. */
    private static void leave(String quote) {
        int at = left.indexOf(quote);
        Due.is("the document tells: " + quote, at < 0 ? 0 : 1, 1);
        if (at >= 0) {
            passedOver(left.substring(0, at));
            left = left.substring(at + quote.length());
        }
    }

    private static void passedOver(String text) {
        boolean names = text.matches(".*[A-Za-z0-9].*");
        Due.is("no run for: " + text, names ? 1 : 0, 0);
    }
}
