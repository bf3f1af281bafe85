/** What the description says of variables, functions, graphs, cotrees and the history; TextEdges has its formulas. */
final class DescriptionEdges {
    /** Every method that stores a function or empties a slot, for slot 7. */
    private static final Edges.Call[] CHANGES = {
        x -> x.setTable(7, 248),
        x -> x.clear(7),
        x -> Due.parse(x, "a*b+c", 7),
        x -> x.combine(0, 7, 7, 7),
        x -> x.dual(7, 7),
        x -> x.cofactor(7, 0, 0, 7),
        x -> x.substitute(7, 0, 7, 7),
        x -> x.exchange(7, 0, 0, 7),
        x -> x.random(1, 0, 7),
        x -> x.runSteps()
    };

    private final Edges e;
    private final Due due;

    DescriptionEdges(Edges e) {
        this.e = e;
        this.due = e.due;
    }

    void all() {
        e.promise(0);
        readOnce();
        errorCodes();
        variables();
        functions();
        kindsOfFunctions();
        primeImplicants();
        graph();
        cliques();
        readOnceFunctions();
        cotree();
        history();
        historyLimit();
    }

    private static ReadOnceRecognizer table(int n, long table) {
        ReadOnceRecognizer x = Edges.fresh(n);
        x.setTable(0, table);
        return x;
    }

    private void readOnce() {
        e.says("A Boolean function is read-once if it can be written as a formula with the operators and and or in which every"
            + " variable occurs at most once");
        due.is("every variable once", Edges.holding(5, "(a+b)*(c+d)*e").reason(0), 0);
        due.is("one twice, but once is enough", Edges.holding(5, "a*b+a*c").reason(0), 0);
        due.is("once is not enough", Edges.holding(3, "a*b+b*c+c*a").reason(0), 3);

        e.says("It also finds all read-once functions that agree with a partial truth table");
        ReadOnceRecognizer x = Edges.fresh(2);
        x.addSample(3, 1);
        x.addSample(1, 0);
        due.is("a*b, b and no other", x.extensions(), 2);
        due.is("a*b", x.extension(0), 8);
        due.is("b", x.extension(1), 12);
    }

    private void errorCodes() {
        e.says("A method that returns an error code leaves the state unchanged, unless its description says otherwise");
        e.refused("setVariables(6)", -2, x -> x.setVariables(6));
        e.refused("parse(8)", -2, x -> x.parse(8));
        e.refusedBusy("combine(0, 3, 0, 0)", -3, x -> x.combine(0, 3, 0, 0));
        e.refusedBusy("neighbors(2, 0)", -4, x -> x.neighbors(2, 0));
        e.refusedBusy("writeFormula(2)", -5, x -> x.writeFormula(2));
        e.refusedAt(Edges.Kind.FULL, 5, "feed('a')", -6, x -> x.feed('a'));
        e.refusedAt(Edges.Kind.FULL, 5, "addStep(0, 0, 0, 0)", -6, x -> x.addStep(0, 0, 0, 0));
        e.refusedAt(Edges.Kind.NEW, 5, "undo()", -7, ReadOnceRecognizer::undo);
        e.refusedAt(Edges.Kind.NEW, 5, "restore()", -7, ReadOnceRecognizer::restore);
        e.refusedBusy("setElement(1, 0, 0)", -11, x -> x.setElement(1, 0, 0));
        e.refusedBusy("setElement(0, 3, 0)", -13, x -> x.setElement(0, 3, 0));
        e.refused("createArray(0, -1)", -14, x -> x.createArray(0, -1));
        ReadOnceRecognizer said = Edges.busy(3);
        due.is("only parse says otherwise", said.parse(0), -102);
        due.is("its buffer is empty", said.feed('a'), 1);
    }

    private void variables() {
        e.says("There are n variables, numbered 0 to n - 1, where n is 1 to 5 and initially 3");
        due.is("initially", new ReadOnceRecognizer().variables(), 3);
        for (int n = 1; n <= 5; n++) {
            ReadOnceRecognizer x = Edges.holding(n, Edges.ALL_VARIABLES[n]);
            due.is("all are there", x.essential(0), (1 << n) - 1);
            due.holds("the last", x.depth(0, n - 1) > 0);
            due.is("one beyond", x.depth(0, n), -2);
        }

        e.says("Variables 0 to 4 are written a to e");
        for (int v = 0; v < 5; v++) {
            ReadOnceRecognizer x = Edges.holding(5, String.valueOf("abcde".charAt(v)));
            due.is("read", x.nodeType(0, 0), v);
            due.is("written", x.writeFormula(0), 1);
            due.is("letter", x.output(0), "abcde".charAt(v));
        }

        e.says("A set of variables is an integer whose bit v is 1 if the set contains variable v");
        due.is("a and e", Edges.holding(5, "a*e").essential(0), 17);
        due.is("all", Edges.holding(5, "a*b*c*d*e").essential(0), 31);
        due.is("none", Edges.holding(5, "0").essential(0), 0);

        e.says("A point is an assignment of values to all variables",
            "it is identified with the set of the variables that have value 1, so it is an integer from 0 to 2^n - 1");
        for (int n = 1; n <= 5; n++) {
            int last = (1 << n) - 1;
            ReadOnceRecognizer x = Edges.holding(n, "!a");
            due.is("all are 0", x.value(0, 0), 1);
            due.is("all are 1", x.value(0, last), 0);
            due.is("one beyond", x.value(0, last + 1), -2);
            due.is("one before", x.value(0, -1), -2);
        }
        due.is("b is 1 alone", Edges.holding(3, "b*!a*!c").value(0, 2), 1);
    }

    private void functions() {
        e.says("A function is stored as its truth table, a long from 0 to 2^(2^n) - 1 whose bit p is the value of the function at"
            + " point p");
        for (int n = 1; n <= 5; n++) {
            for (int p = 0; p < 1 << n; p++) {
                ReadOnceRecognizer x = table(n, 1L << p);
                due.is("at " + p, x.value(0, p), 1);
                due.is("at another", x.value(0, p ^ 1), 0);
            }
            due.is("the highest", table(n, Edges.FULL_TABLE[n]).table(0), Edges.FULL_TABLE[n]);
            due.is("one beyond", Edges.fresh(n).setTable(0, Edges.FULL_TABLE[n] + 1), -2);
            due.is("one before", Edges.fresh(n).setTable(0, -1), -2);
        }

        e.says("There are 8 slots, numbered 0 to 7");
        ReadOnceRecognizer x = new ReadOnceRecognizer();
        for (int slot = 0; slot < 8; slot++) {
            due.is("setTable(" + slot + ")", x.setTable(slot, 1L << slot), 1);
        }
        for (int slot = 0; slot < 8; slot++) {
            due.is("table(" + slot + ")", x.table(slot), 1L << slot);
        }
        due.is("setTable(8)", x.setTable(8, 0), -2);
        due.is("setTable(-1)", x.setTable(-1, 0), -2);

        e.says("Each slot is empty or holds a function");
        due.is("the constant 0 is a function", Edges.holding(3, "0").usedSlots(), 1);
        x.clear(3);
        due.is("empty", x.table(3), -3);
        x.setTable(3, 0);
        due.is("the constant 0", x.table(3), 0);

        e.says("all are empty at first");
        for (int slot = 0; slot < 8; slot++) {
            due.is("table(" + slot + ")", new ReadOnceRecognizer().table(slot), -3);
        }
    }

    private void kindsOfFunctions() {
        e.says("A variable is essential for a function if there is a point at which the value of the function changes when the"
            + " value of that variable changes");
        due.is("one point is enough", Edges.holding(5, "a*b*c*d*e").essential(0), 31);
        due.is("written, not essential", Edges.holding(5, "a*(e+!e)").essential(0), 1);

        e.says("A function without essential variables is constant");
        due.is("0", Edges.holding(5, "a*!a").essential(0), 0);
        due.is("1", Edges.holding(5, "a+!a").essential(0), 0);
        due.is("1 but at the last point", table(5, 0x7FFFFFFFL).essential(0), 31);

        e.says("A function is monotone if its value never changes from 1 to 0 when one variable changes from 0 to 1");
        due.is("a constant never changes", Edges.holding(1, "1").isMonotone(0), 1);
        due.is("from 0 to 1 alone", Edges.holding(1, "a").isMonotone(0), 1);
        due.is("from 1 to 0", Edges.holding(1, "!a").isMonotone(0), 0);
        due.is("at one point alone", Edges.holding(5, "a+b+c+d+!e").isMonotone(0), 0);
    }

    private void primeImplicants() {
        e.says("An implicant of a monotone function is a set of variables such that the value of the function is 1 at the point"
            + " that is this set");
        due.is("all variables", table(5, 1L << 31).primeImplicant(0, 0), 31);
        due.is("no variable", table(5, 0xFFFFFFFFL).primeImplicant(0, 0), 0);

        e.says("A prime implicant is an implicant of which no proper subset is an implicant");
        ReadOnceRecognizer x = Edges.holding(5, "a+a*b+c*d+b*c*d*e");
        due.is("two of four", x.primeImplicants(0), 2);
        due.is("a", x.primeImplicant(0, 0), 1);
        due.is("c*d", x.primeImplicant(0, 1), 12);

        e.says("The constant 0 has no prime implicant");
        for (int n = 1; n <= 5; n++) {
            due.is("0", Edges.holding(n, "0").primeImplicants(0), 0);
            due.is("its first", Edges.holding(n, "0").primeImplicant(0, 0), -1);
        }

        e.says("the constant 1 has exactly one, the empty set");
        for (int n = 1; n <= 5; n++) {
            due.is("1", Edges.holding(n, "1").primeImplicants(0), 1);
            due.is("its first", Edges.holding(n, "1").primeImplicant(0, 0), 0);
            due.is("its second", Edges.holding(n, "1").primeImplicant(0, 1), -1);
        }
    }

    private void graph() {
        e.says("The co-occurrence graph of a monotone function is an undirected graph");
        ReadOnceRecognizer x = Edges.holding(5, "a*c+c*e+b*d");
        for (int u = 0; u < 5; u++) {
            for (int v = 0; v < 5; v++) {
                due.is("both ways", x.neighbors(0, u) >> v & 1, x.neighbors(0, v) >> u & 1);
            }
        }

        e.says("Its vertices are the essential variables");
        due.is("c is none", Edges.holding(3, "a*b").neighbors(0, 2), 0);
        due.is("no lone vertex c that would be a clique", Edges.holding(3, "a*b").badClique(0), -1);

        e.says("Two different vertices are adjacent if some prime implicant contains both");
        x = Edges.holding(5, "a*b*c+d");
        due.is("a", x.neighbors(0, 0), 6);
        due.is("no vertex is adjacent to itself", x.neighbors(0, 3), 0);
        due.is("an implicant that is not prime does not count", Edges.holding(3, "a+a*b").neighbors(0, 0), 0);

        e.says("An induced path is a sequence of four different vertices u, v, w, x such that u and v, v and w, w and x are"
            + " adjacent and no other two of them are adjacent");
        due.is("a path", Edges.holding(4, "a*b+b*c+c*d").inducedPath(0, 0), 0);
        due.is("u and x too", Edges.holding(4, "a*b+b*c+c*d+d*a").inducedPath(0, 0), -1);
        due.is("u and w too", Edges.holding(4, "a*b+b*c+c*d+a*c").inducedPath(0, 0), -1);
        due.is("v and x too", Edges.holding(4, "a*b+b*c+c*d+b*d").inducedPath(0, 0), -1);
        due.is("only three", Edges.holding(3, "a*b+b*c").inducedPath(0, 0), -1);
        due.is("two and two", Edges.holding(4, "a*b+c*d").inducedPath(0, 0), -1);
    }

    private void cliques() {
        e.says("A clique is a set of vertices that are pairwise adjacent");
        due.is("a lone vertex is one", Edges.holding(5, "a+b*c+c*d+d*b").badClique(0), 14);
        due.is("two of three pairs are not enough", Edges.holding(3, "a*b+b*c").badClique(0), -1);

        e.says("a clique is maximal if no larger clique contains it");
        due.is("not a*b*c, which a*b*c*d contains", Edges.holding(4, "a*b*d+b*c*d+a*c*d").badClique(0), 15);
        due.is("two that no other contains", Edges.holding(5, "a*b*c+c*d*e").badClique(0), -1);

        e.says("A monotone function that is not constant is normal if every maximal clique of its graph is a prime implicant");
        due.is("every one", Edges.holding(4, "a*b+b*c+c*d").badClique(0), -1);
        due.is("all but one", Edges.holding(5, "a*b*c+c*d+d*e+e*c").badClique(0), 28);

        e.says("A constant function counts as normal");
        for (int n = 1; n <= 5; n++) {
            due.is("0", Edges.holding(n, "0").badClique(0), -1);
            due.is("1", Edges.holding(n, "1").badClique(0), -1);
        }
    }

    private void readOnceFunctions() {
        e.says("A function is read-once if and only if it is monotone, its co-occurrence graph has no induced path, and it is"
            + " normal");
        due.is("all three", Edges.holding(5, "a*(b+c)+d*e").nodes(0), 9);
        due.is("not monotone", Edges.holding(5, "!a").nodes(0), -5);
        due.is("an induced path", Edges.holding(5, "a*b+b*c+c*d").nodes(0), -5);
        due.is("not normal", Edges.holding(5, "a*b+b*c+c*a").nodes(0), -5);

        e.says("Constant functions are read-once");
        for (int n = 1; n <= 5; n++) {
            due.is("0", Edges.holding(n, "0").reason(0), 0);
            due.is("1", Edges.holding(n, "1").reason(0), 0);
            due.is("no draws", Edges.fresh(n).readOnceTrials(1, 0, 30), 30);
            due.is("both are counted", Edges.fresh(n).readOnceCount(0), 2);
        }
    }

    private void tree(String formula, int... types) {
        ReadOnceRecognizer x = Edges.holding(5, formula);
        due.is("nodes(0) of " + formula, x.nodes(0), types.length);
        for (int node = 0; node < types.length; node++) {
            due.is("nodeType(0, " + node + ") of " + formula, x.nodeType(0, node), types[node]);
        }
    }

    private void cotree() {
        e.says("A read-once function that is not constant has a cotree");
        tree("a", 0);
        tree("0");
        tree("1");

        e.says("The cotree of a set of vertices is a single leaf if the set has one vertex");
        tree("e", 4);

        e.says("Otherwise, if the graph restricted to the set is not connected, the root is an or node whose children are the"
            + " cotrees of the connected components");
        tree("a+b+c+d+e", 11, 0, 1, 2, 3, 4);
        tree("a*c+b", 11, 10, 0, 2, 1);

        e.says("Otherwise the root is an and node whose children are the cotrees of the connected components of the complement"
            + " graph restricted to the set");
        tree("a*b*c*d*e", 10, 0, 1, 2, 3, 4);
        tree("(a+c)*b", 10, 11, 0, 2, 1);
        tree("(a+b)*(c+d*e)", 10, 11, 0, 1, 11, 2, 10, 3, 4);

        e.says("The children of a node are ordered by the lowest variable in each child");
        tree("b*c+a*d", 11, 10, 0, 3, 10, 1, 2);
        tree("e+(c+d)*a", 11, 10, 0, 11, 2, 3, 4);
        tree("(b+c)*(d+a)*e", 10, 11, 0, 3, 11, 1, 2, 4);

        e.says("The cotree of the function is that of all its essential variables");
        tree("b+d", 11, 1, 3);
        tree("b*d+b*d*e", 10, 1, 3);

        e.says("Its nodes are numbered from 0 in preorder: a node comes before its children, and a child with all its descendants"
            + " comes before the next child");
        tree("a*(b+c*(d+e))", 10, 0, 11, 1, 10, 2, 11, 3, 4);
        tree("((a+b)*c+d)*e", 10, 11, 10, 11, 0, 1, 2, 3, 4);
        ReadOnceRecognizer x = Edges.holding(5, "((a+b)*c+d)*e");
        int[] parents = {-1, 0, 1, 2, 3, 3, 2, 1, 0};
        for (int node = 0; node < 9; node++) {
            due.is("parent(0, " + node + ")", x.parent(0, node), parents[node]);
        }
    }

    /** Slot 7 holds a*b+c, slots 0 to 6 nothing; the program is one step that stores in slot 7. */
    private static ReadOnceRecognizer ready(int records) {
        ReadOnceRecognizer x = new ReadOnceRecognizer();
        x.addStep(1, 7, 7, 7);
        for (int i = 0; i < records; i++) {
            x.setTable(7, 248);
        }
        return x;
    }

    private void history() {
        e.says("Each method that stores a function in a slot or empties a slot records the previous content of that slot, even if"
            + " the content does not change");
        for (int i = 0; i < CHANGES.length; i++) {
            ReadOnceRecognizer x = ready(1);
            due.holds("change " + i + " is done", CHANGES[i].on(x) >= 0);
            due.is("undoable() after change " + i, x.undoable(), 2);
            due.is("undo() of change " + i, x.undo(), 7);
            due.is("table(7) before change " + i, x.table(7), 248);
            due.is("undo() of the first", x.undo(), 7);
            due.is("table(7) at first", x.table(7), -3);
        }
        ReadOnceRecognizer x = ready(1);
        due.is("the same content", x.setTable(7, 248), 5);
        due.is("the same content", x.combine(0, 7, 7, 7), 5);
        due.is("the same content", x.exchange(7, 1, 1, 7), 5);
        due.is("undoable()", x.undoable(), 4);
    }

    private void historyLimit() {
        e.says("At most 10 such records are kept");
        for (int i = 0; i < CHANGES.length; i++) {
            ReadOnceRecognizer x = ready(9);
            due.is("undoable() before change " + i, x.undoable(), 9);
            CHANGES[i].on(x);
            due.is("undoable() after change " + i, x.undoable(), 10);
            x = ready(10);
            CHANGES[i].on(x);
            due.is("undoable() after one more", x.undoable(), 10);
        }

        e.says("when another one is added, the oldest is dropped");
        for (int changes = 9; changes <= 24; changes++) {
            ReadOnceRecognizer x = new ReadOnceRecognizer();
            for (int i = 0; i < changes; i++) {
                x.setTable(i % 3, i + 1);
            }
            for (int i = changes - 1; i >= Math.max(0, changes - 10); i--) {
                due.is("undo()", x.undo(), i % 3);
                due.is("its content", x.table(i % 3), i >= 3 ? i - 2 : -3);
            }
            due.is("no more", x.undo(), -7);
        }
        for (int i = 0; i < CHANGES.length; i++) {
            ReadOnceRecognizer x = ready(0);
            x.setTable(0, 99);
            for (int k = 0; k < 9; k++) {
                x.setTable(7, 248);
            }
            CHANGES[i].on(x);
            for (int k = 0; k < 10; k++) {
                due.is("undo()", x.undo(), 7);
            }
            due.is("the change of slot 0 is dropped", x.undo(), -7);
            due.is("table(0)", x.table(0), 99);
        }
    }
}
