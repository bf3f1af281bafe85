import java.io.IOException;
import java.util.regex.Matcher;
import java.util.regex.Pattern;

/** The rows of the document's "Examples", each from a new object: once written out here, once read from the document. */
public final class ExamplesTest {
    private static final Due due = new Due();
    private static final Pattern PART = Pattern.compile(
        "the characters of \"([^\"]*)\" are fed|(\\w+)\\(([^)]*)\\) (-?\\d+)");

    public static void main(String[] args) throws IOException, ReflectiveOperationException {
        asTheDocumentSays();
        formulaReadOnce();
        majority();
        notMonotone();
        samples();
        noTexts();
        dualsCofactorsExchanges();
        due.end();
    }

    private static void asTheDocumentSays() throws IOException, ReflectiveOperationException {
        int rows = 0;
        int calls = 0;
        for (String row : new Document().examples()) {
            due.section(row.substring(0, row.indexOf(':')) + ", as the document says");
            rows++;
            ReadOnceRecognizer x = new ReadOnceRecognizer();
            Matcher part = PART.matcher(row);
            while (part.find()) {
                if (part.group(1) != null) {
                    feed(x, part.group(1));
                } else {
                    calls++;
                    due.is(part.group(), Calls.call(x, part.group(2), part.group(3)), Long.parseLong(part.group(4)));
                }
            }
        }
        due.section("the rows of the document");
        due.is("rows", rows, 6);
        due.is("calls", calls, 45);
    }

    private static void feed(ReadOnceRecognizer x, String text) {
        for (int i = 0; i < text.length(); i++) {
            due.is("feed " + text.charAt(i), x.feed(text.charAt(i)), i + 1);
        }
    }

    private static void formulaReadOnce() {
        due.section("A formula read once");
        ReadOnceRecognizer x = new ReadOnceRecognizer();
        feed(x, "a*b+c");
        due.is("parse(0)", x.parse(0), 3);
        due.is("table(0)", x.table(0), 248);
        due.is("primeImplicants(0)", x.primeImplicants(0), 2);
        due.is("primeImplicant(0, 0)", x.primeImplicant(0, 0), 3);
        due.is("primeImplicant(0, 1)", x.primeImplicant(0, 1), 4);
        due.is("reason(0)", x.reason(0), 0);
        due.is("nodes(0)", x.nodes(0), 5);
        due.is("nodeType(0, 0)", x.nodeType(0, 0), 11);
        due.is("nodeType(0, 1)", x.nodeType(0, 1), 10);
        due.is("writeFormula(0)", x.writeFormula(0), 5);
        due.is("output(0)", x.output(0), 97);
    }

    private static void majority() {
        due.section("A majority");
        ReadOnceRecognizer x = new ReadOnceRecognizer();
        feed(x, "a*b+b*c+c*a");
        due.is("parse(0)", x.parse(0), 6);
        due.is("reason(0)", x.reason(0), 3);
        due.is("badClique(0)", x.badClique(0), 7);
        due.is("writeFormula(0)", x.writeFormula(0), -5);
    }

    private static void notMonotone() {
        due.section("A table that is not monotone");
        ReadOnceRecognizer x = new ReadOnceRecognizer();
        due.is("setTable(0, 34)", x.setTable(0, 34), 2);
        due.is("isMonotone(0)", x.isMonotone(0), 0);
        due.is("violatingPoint(0)", x.violatingPoint(0), 1);
        due.is("reason(0)", x.reason(0), 1);
        due.is("primeImplicants(0)", x.primeImplicants(0), -4);
        due.is("setTable(0, 256)", x.setTable(0, 256), -2);
        due.is("table(1)", x.table(1), -3);
    }

    private static void samples() {
        due.section("Tables that agree with samples");
        ReadOnceRecognizer x = new ReadOnceRecognizer();
        due.is("setVariables(2)", x.setVariables(2), 3);
        due.is("extensions()", x.extensions(), 6);
        due.is("addSample(3, 1)", x.addSample(3, 1), 1);
        due.is("addSample(0, 0)", x.addSample(0, 0), 2);
        due.is("extensions()", x.extensions(), 4);
        due.is("extension(0)", x.extension(0), 8);
        due.is("extension(3)", x.extension(3), 14);
        due.is("extension(4)", x.extension(4), -1);
        due.is("simplestExtension()", x.simplestExtension(), 10);
    }

    private static void noTexts() {
        due.section("Texts that are none");
        ReadOnceRecognizer x = new ReadOnceRecognizer();
        feed(x, "a+");
        due.is("parse(0)", x.parse(0), -102);
        due.is("table(0)", x.table(0), -3);
        due.is("parse(0)", x.parse(0), -100);
    }

    private static void dualsCofactorsExchanges() {
        due.section("Duals, cofactors, exchanges");
        ReadOnceRecognizer x = new ReadOnceRecognizer();
        due.is("setTable(0, 136)", x.setTable(0, 136), 2);
        due.is("dual(0, 1)", x.dual(0, 1), 6);
        due.is("cofactor(0, 0, 1, 2)", x.cofactor(0, 0, 1, 2), 4);
        due.is("table(2)", x.table(2), 204);
        due.is("exchange(0, 0, 2, 3)", x.exchange(0, 0, 2, 3), 2);
        due.is("table(3)", x.table(3), 192);
        due.is("combine(1, 0, 3, 4)", x.combine(1, 0, 3, 4), 3);
        due.is("undoable()", x.undoable(), 5);
        due.is("undo()", x.undo(), 4);
        due.is("table(4)", x.table(4), -3);
        due.is("usedSlots()", x.usedSlots(), 4);
    }
}
