/** What is asked of a function, for every function of up to four variables and every monotone one of five. */
public final class EveryFunctionTest {
    private static final Due due = new Due();
    private static int looked = 0;

    public static void main(String[] args) {
        for (int n = 1; n <= 4; n++) {
            for (long table = 0; table < 1L << (1 << n); table++) {
                look(n, table);
            }
        }
        for (long low = 0; low < 65536; low++) {
            if (isMonotone(4, low)) {
                lookAtPairs(low);
            }
        }
        due.holds("7581 monotone functions of five variables", looked == 7581);
        due.end();
    }

    private static boolean isMonotone(int n, long table) {
        for (int p = 0; p < 1 << n; p++) {
            for (int v = 0; v < n; v++) {
                if ((table >> p & 1) > (table >> (p | 1 << v) & 1)) {
                    return false;
                }
            }
        }
        return true;
    }

    private static void lookAtPairs(long low) {
        for (long high = low; high < 65536; high++) {
            if ((low & ~high) == 0 && isMonotone(4, high)) {
                looked++;
                look(5, high << 16 | low);
            }
        }
    }

    private static void look(int n, long table) {
        ReadOnceRecognizer x = new ReadOnceRecognizer();
        Model m = new Model();
        x.setVariables(n);
        m.setVariables(n);
        x.setTable(0, table);
        m.setTable(0, table);
        due.section(n + " variables, table " + table);
        due.is("essential", x.essential(0), m.essential(0));
        due.is("isMonotone", x.isMonotone(0), m.isMonotone(0));
        due.is("violatingPoint", x.violatingPoint(0), m.violatingPoint(0));
        due.is("reason", x.reason(0), m.reason(0));
        due.is("primeImplicants", x.primeImplicants(0), m.primeImplicants(0));
        due.is("nodes", x.nodes(0), m.nodes(0));
        if (m.isMonotone(0) == 1) {
            lookAtGraph(x, m, n);
        }
        if (m.reason(0) == 0) {
            lookAtTree(x, m, n, table);
        }
    }

    private static void lookAtGraph(ReadOnceRecognizer x, Model m, int n) {
        for (int i = 0; i <= m.primeImplicants(0); i++) {
            due.is("primeImplicant " + i, x.primeImplicant(0, i), m.primeImplicant(0, i));
        }
        for (int v = 0; v < n; v++) {
            due.is("neighbors " + v, x.neighbors(0, v), m.neighbors(0, v));
        }
        for (int i = 0; i < 4; i++) {
            due.is("inducedPath " + i, x.inducedPath(0, i), m.inducedPath(0, i));
        }
        due.is("badClique", x.badClique(0), m.badClique(0));
    }

    private static void lookAtTree(ReadOnceRecognizer x, Model m, int n, long table) {
        for (int i = 0; i <= m.nodes(0); i++) {
            due.is("nodeType " + i, x.nodeType(0, i), m.nodeType(0, i));
            due.is("parent " + i, x.parent(0, i), m.parent(0, i));
        }
        for (int v = 0; v < n; v++) {
            due.is("depth " + v, x.depth(0, v), m.depth(0, v));
        }
        int length = m.writeFormula(0);
        due.is("writeFormula", x.writeFormula(0), length);
        for (int i = 0; i <= length; i++) {
            due.is("output " + i, x.output(i), m.output(i));
        }
        Due.parse(x, Due.written(x), 1);
        due.is("the formula read again", x.table(1), table);
    }
}
