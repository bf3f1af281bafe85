import java.io.IOException;
import java.nio.file.Files;
import java.nio.file.Path;
import java.util.ArrayList;
import java.util.List;

/** The document, cut into the clauses that a test can name: sentences, their parts at ";", and lines of arguments. */
final class Document {
    static final int PROMISES = 49;
    private static final Path FILE = Path.of("../shared/DOC.md");

    private final String text;

    Document() throws IOException {
        text = Files.readString(FILE);
    }

    /** The clauses of a promise; number 0 is the description, without its examples and constants. */
    List<String> clauses(int promise) {
        if (promise == 0) {
            return cut(between("## Description\n", "\nExamples. Each one"));
        }
        return cut(body(promise));
    }

    private String body(int promise) {
        String heading = "\n## Promise " + promise + ":";
        String next = promise == PROMISES ? "\n## Not promised" : "\n## Promise " + (promise + 1) + ":";
        String body = between(heading, next);
        // The first two paragraphs are the rest of the heading and the signature.
        return body.substring(body.indexOf("`\n\n") + 3);
    }

    /** The name of a promise's method, which its heading tells. */
    String methodOf(int promise) {
        return between("\n## Promise " + promise + ": ", "\n");
    }

    /** What a promise says of its answers: the last paragraph that begins with "Returns". */
    String answers(int promise) {
        String found = "";
        for (String paragraph : body(promise).split("\n\\s*\n")) {
            if (paragraph.startsWith("Returns")) {
                found = paragraph;
            }
        }
        return found;
    }

    /** The lines of the constants, as "NONE = -1". */
    List<String> constants() {
        List<String> lines = new ArrayList<>();
        for (String line : between("\nThe constants:\n\n", "\n\n").split("\n")) {
            lines.add(line.substring(line.indexOf('`') + 1, line.lastIndexOf('`')));
        }
        return lines;
    }

    /** The rows of the examples, a paragraph each. */
    List<String> examples() {
        List<String> rows = new ArrayList<>();
        String all = between("calls are followed by their results.", "\nThe constants:");
        for (String paragraph : all.strip().split("\n\\s*\n")) {
            rows.add(paragraph.replace('\n', ' '));
        }
        return rows;
    }

    private String between(String from, String to) {
        int start = text.indexOf(from) + from.length();
        return text.substring(start, text.indexOf(to, start));
    }

    private static List<String> cut(String body) {
        List<String> clauses = new ArrayList<>();
        for (String paragraph : body.strip().split("\n\\s*\n")) {
            if (paragraph.startsWith("- ")) {
                for (String line : paragraph.split("\n")) {
                    clauses.add(line.substring(2).replace("`", ""));
                }
                continue;
            }
            for (String sentence : paragraph.replaceAll("\\s+", " ").split("(?<=\\.) ")) {
                clauses.addAll(List.of(sentence.replaceAll("\\.$", "").split("; ")));
            }
        }
        return clauses;
    }
}
