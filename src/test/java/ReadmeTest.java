import java.io.IOException;
import java.nio.file.Files;
import java.nio.file.Path;
import java.util.ArrayList;
import java.util.List;
import java.util.Set;
import java.util.TreeSet;
import java.util.regex.Matcher;
import java.util.regex.Pattern;

/** What README.md says: its examples answer so, and its tables tell of every method and answer of the document. */
public final class ReadmeTest {
    private static final Due due = new Due();
    private static final Pattern FED = Pattern.compile("\"([^\"]*)\"\\.toCharArray\\(\\)");
    private static final Pattern CALL = Pattern.compile("^x\\.(\\w+)\\(([^)]*)\\); +// (-?\\d+):");
    private static final Pattern CODE = Pattern.compile(
        "\\b(NONE|BAD_ARGUMENT|EMPTY_SLOT|NOT_MONOTONE|NOT_READ_ONCE|FULL|NOTHING_SAVED|Long\\.MIN_VALUE)\\b|-1[134]\\b|-100");

    public static void main(String[] args) throws IOException, ReflectiveOperationException {
        List<String> lines = Files.readAllLines(Path.of("README.md"));
        examples(lines);
        methods(rows(lines, "| call |"));
        negativeAnswers(rows(lines, "| answer | constant |"));
        tests(rows(lines, "| test |"));
        due.end();
    }

    private static void examples(List<String> lines) throws ReflectiveOperationException {
        due.section("the examples");
        ReadOnceRecognizer x = new ReadOnceRecognizer();
        int calls = 0;
        for (String line : lines) {
            Matcher fed = FED.matcher(line);
            Matcher call = CALL.matcher(line);
            if (line.startsWith("ReadOnceRecognizer x = ")) {
                x = new ReadOnceRecognizer();
            } else if (fed.find()) {
                Due.feedAll(x, fed.group(1));
            } else if (call.find()) {
                calls++;
                due.is(line, Calls.call(x, call.group(1), call.group(2)), Long.parseLong(call.group(3)));
            } else {
                due.holds("the answer of " + line, !line.startsWith("x."));
            }
        }
        due.is("calls", calls, 16);
    }

    /** The cells of the table whose first line begins so, a row each. */
    private static List<String[]> rows(List<String> lines, String heading) {
        List<String[]> rows = new ArrayList<>();
        boolean inside = false;
        for (String line : lines) {
            inside = line.startsWith(heading) || inside && line.startsWith("|");
            if (inside && !line.startsWith(heading) && !line.startsWith("| ---")) {
                rows.add(line.substring(1).strip().split("\\s*\\|\\s*"));
            }
        }
        return rows;
    }

    private static Set<String> codes(String text) {
        Set<String> codes = new TreeSet<>();
        Matcher code = CODE.matcher(text);
        while (code.find()) {
            codes.add(code.group());
        }
        return codes;
    }

    /** Every promise but that of the constructor has a row, in the same order, with the negative answers it names. */
    private static void methods(List<String[]> rows) throws IOException {
        due.section("the calls");
        due.is("rows", rows.size(), Document.PROMISES - 1);
        Document document = new Document();
        for (int i = 0; i < rows.size(); i++) {
            String[] row = rows.get(i);
            int promise = i + 2;
            due.same("the call of promise " + promise, row[0].substring(1, row[0].indexOf('(')), document.methodOf(promise));
            String told = codes(row.length > 2 ? row[2] : "").toString();
            due.same("the negative answers of " + row[0], told, codes(document.answers(promise)).toString());
        }
    }

    private static void negativeAnswers(List<String[]> rows) throws IOException {
        due.section("the negative answers");
        Set<String> told = new TreeSet<>();
        Set<String> constants = new TreeSet<>();
        for (String[] row : rows) {
            told.addAll(codes(row[1].isEmpty() ? row[0] : row[1]));
            if (!row[1].isEmpty()) {
                constants.add(row[1].replace("`", "") + " = " + row[0]);
            }
            due.holds("what " + row[0] + " means", row.length == 3 && !row[2].isEmpty());
        }
        Document document = new Document();
        due.same("the constants", constants.toString(), new TreeSet<>(document.constants()).toString());
        Set<String> want = new TreeSet<>();
        for (int promise = 2; promise <= Document.PROMISES; promise++) {
            want.addAll(codes(document.answers(promise)));
        }
        due.same("all of them", told.toString(), want.toString());
    }

    private static void tests(List<String[]> rows) throws IOException {
        due.section("the tests");
        Set<String> told = new TreeSet<>();
        for (String[] row : rows) {
            told.add(row[0].replace("`", ""));
        }
        Set<String> want = new TreeSet<>();
        try (var files = Files.list(Path.of("src/test/java"))) {
            files.map(file -> file.getFileName().toString()).filter(name -> name.endsWith("Test.java"))
                .forEach(name -> want.add(name.replace(".java", "")));
        }
        due.same("each has a row", told.toString(), want.toString());
    }
}
