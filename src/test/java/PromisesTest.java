/** A section for each promise of the document: ordinary inputs, the edges that it names, wrong inputs. */
public final class PromisesTest {
    private static final Due due = new Due();
    private static final int LOW = Integer.MIN_VALUE;
    private static final int HIGH = Integer.MAX_VALUE;
    private static final int[] NO_SLOTS = {LOW, -1, 8, HIGH};

    public static void main(String[] args) {
        constants();
        newObject();
        variables();
        tables();
        clearing();
        values();
        monotony();
        primes();
        graphs();
        paths();
        cliques();
        reasons();
        trees();
        depths();
        formulas();
        feeding();
        parsing();
        parsingErrors();
        combining();
        duals();
        cofactors();
        substitutions();
        exchanges();
        randoms();
        trials();
        samples();
        extensions();
        counts();
        steps();
        runs();
        undoing();
        historyOfEveryMethod();
        saving();
        arrays();
        comparing();
        slotsOutOfRange();
        emptySlots();
        checksInOrder();
        errorsLeaveAlone();
        due.end();
    }

    private static ReadOnceRecognizer fresh(int n) {
        ReadOnceRecognizer x = new ReadOnceRecognizer();
        if (n != 3) {
            due.is("setVariables(" + n + ")", x.setVariables(n), 3);
        }
        return x;
    }

    private static ReadOnceRecognizer holding(int n, String formula) {
        ReadOnceRecognizer x = fresh(n);
        due.holds("parse " + formula, Due.parse(x, formula, 0) >= 0);
        return x;
    }

    private static void constants() {
        due.section("the constants");
        due.is("NONE", ReadOnceRecognizer.NONE, -1);
        due.is("BAD_ARGUMENT", ReadOnceRecognizer.BAD_ARGUMENT, -2);
        due.is("EMPTY_SLOT", ReadOnceRecognizer.EMPTY_SLOT, -3);
        due.is("NOT_MONOTONE", ReadOnceRecognizer.NOT_MONOTONE, -4);
        due.is("NOT_READ_ONCE", ReadOnceRecognizer.NOT_READ_ONCE, -5);
        due.is("FULL", ReadOnceRecognizer.FULL, -6);
        due.is("NOTHING_SAVED", ReadOnceRecognizer.NOTHING_SAVED, -7);
    }

    private static void newObject() {
        due.section("1 a new object");
        ReadOnceRecognizer x = new ReadOnceRecognizer();
        due.is("variables()", x.variables(), 3);
        due.is("usedSlots()", x.usedSlots(), 0);
        due.is("undoable()", x.undoable(), 0);
        due.is("output(0)", x.output(0), -1);
        due.is("clearSteps()", x.clearSteps(), 0);
        due.is("runSteps()", x.runSteps(), 0);
        due.is("extensions()", x.extensions(), 19);
        for (int slot = 0; slot < 8; slot++) {
            due.is("table", x.table(slot), -3);
        }
        for (int p = 0; p < 8; p++) {
            due.is("removeSample", x.removeSample(p), -1);
        }
        for (int array = 0; array < 4; array++) {
            due.is("setElement", x.setElement(array, 0, 0), -11);
        }
        due.is("feed", x.feed(97), 1);
        ReadOnceRecognizer y = new ReadOnceRecognizer();
        x.setTable(0, 7);
        due.is("another object stays alone", y.table(0), -3);
    }

    private static void variables() {
        due.section("2, 3 setVariables and variables");
        ReadOnceRecognizer x = new ReadOnceRecognizer();
        for (int wrong : new int[] {LOW, -1, 0, 6, HIGH}) {
            due.is("setVariables(" + wrong + ")", x.setVariables(wrong), -2);
            due.is("variables()", x.variables(), 3);
        }
        int before = 3;
        for (int n = 1; n <= 5; n++) {
            due.is("setVariables(" + n + ")", x.setVariables(n), before);
            due.is("variables()", x.variables(), n);
            before = n;
        }
        x.setTable(3, 5);
        x.addSample(1, 1);
        x.addStep(0, 3, 3, 4);
        x.save();
        x.writeFormula(x.setTable(0, 0));
        x.createArray(2, 3);
        Due.feedAll(x, "a+");
        due.is("setVariables(5) again", x.setVariables(5), 5);
        due.is("usedSlots()", x.usedSlots(), 0);
        due.is("removeSample(1)", x.removeSample(1), -1);
        due.is("clearSteps()", x.clearSteps(), 0);
        due.is("undoable()", x.undoable(), 0);
        due.is("undo()", x.undo(), -7);
        due.is("output(0)", x.output(0), 48);
        due.is("element(2, 2)", x.element(2, 2), 0);
        due.is("feed", x.feed(98), 3);
        due.is("parse(1)", x.parse(1), 2);
        due.is("setVariables(2)", x.setVariables(2), 5);
        due.is("restore()", x.restore(), 1);
        due.is("variables()", x.variables(), 5);
    }

    private static void tables() {
        due.section("4, 5 setTable and table");
        long[] last = {0, 3, 15, 255, 65535, 4294967295L};
        for (int n = 1; n <= 5; n++) {
            ReadOnceRecognizer x = fresh(n);
            due.is("full table", x.setTable(0, last[n]), 1 << n);
            due.is("table(0)", x.table(0), last[n]);
            due.is("one too many", x.setTable(0, last[n] + 1), -2);
            due.is("-1", x.setTable(0, -1), -2);
            due.is("lowest long", x.setTable(0, Long.MIN_VALUE), -2);
            due.is("highest long", x.setTable(0, Long.MAX_VALUE), -2);
            due.is("table(0)", x.table(0), last[n]);
            due.is("zero", x.setTable(7, 0), 0);
            due.is("table(7)", x.table(7), 0);
            due.is("undoable()", x.undoable(), 2);
        }
        ReadOnceRecognizer x = fresh(5);
        due.is("setTable(1, 0x80000001)", x.setTable(1, 0x80000001L), 2);
        due.is("table(1)", x.table(1), 0x80000001L);
        for (int slot : NO_SLOTS) {
            due.is("setTable(" + slot + ")", x.setTable(slot, 0), -2);
            due.is("table(" + slot + ")", x.table(slot), -2);
        }
        due.is("table(2)", x.table(2), -3);
    }

    private static void clearing() {
        due.section("6, 48 clear and usedSlots");
        ReadOnceRecognizer x = new ReadOnceRecognizer();
        for (int slot = 0; slot < 8; slot++) {
            x.setTable(slot, slot);
            due.is("usedSlots()", x.usedSlots(), slot + 1);
        }
        due.is("clear(0)", x.clear(0), 7);
        due.is("clear(0)", x.clear(0), -3);
        due.is("table(0)", x.table(0), -3);
        due.is("table(1)", x.table(1), 1);
        due.is("clear(7)", x.clear(7), 6);
        due.is("clear(8)", x.clear(8), -2);
        due.is("clear(-1)", x.clear(-1), -2);
        due.is("usedSlots()", x.usedSlots(), 6);
        due.is("undo()", x.undo(), 7);
        due.is("table(7)", x.table(7), 7);
    }

    private static void values() {
        due.section("7, 8 value and essential");
        ReadOnceRecognizer x = fresh(5);
        x.setTable(0, 0x80000001L);
        due.is("value(0, 0)", x.value(0, 0), 1);
        due.is("value(0, 1)", x.value(0, 1), 0);
        due.is("value(0, 31)", x.value(0, 31), 1);
        due.is("value(0, 32)", x.value(0, 32), -2);
        due.is("value(0, -1)", x.value(0, -1), -2);
        due.is("value(8, 0)", x.value(8, 0), -2);
        due.is("value(1, 0)", x.value(1, 0), -3);
        due.is("value(1, 32)", x.value(1, 32), -2);
        due.is("essential(0)", x.essential(0), 31);
        x.setVariables(1);
        x.setTable(0, 1);
        due.is("value(0, 1)", x.value(0, 1), 0);
        due.is("value(0, 2)", x.value(0, 2), -2);
        due.is("essential(0)", x.essential(0), 1);
        x.setTable(0, 3);
        due.is("essential of 1", x.essential(0), 0);
        x = holding(4, "a*!c+!a*c+b*!b");
        due.is("essential of an exclusive or", x.essential(0), 5);
        x = holding(5, "e");
        due.is("essential of e", x.essential(0), 16);
    }

    private static void monotony() {
        due.section("9, 10 isMonotone and violatingPoint");
        ReadOnceRecognizer x = holding(3, "a*b+c");
        due.is("isMonotone(0)", x.isMonotone(0), 1);
        due.is("violatingPoint(0)", x.violatingPoint(0), -1);
        x.setTable(0, 127);
        due.is("isMonotone(0)", x.isMonotone(0), 0);
        due.is("violatingPoint(0)", x.violatingPoint(0), 3);
        x.setTable(0, 1);
        due.is("violatingPoint(0)", x.violatingPoint(0), 0);
        x.setTable(0, 0);
        due.is("isMonotone of 0", x.isMonotone(0), 1);
        x.setTable(0, 255);
        due.is("isMonotone of 1", x.isMonotone(0), 1);
        x = fresh(5);
        x.setTable(0, 0x08000000L);
        due.is("violatingPoint(0)", x.violatingPoint(0), 27);
    }

    private static void primes() {
        due.section("11, 12 primeImplicants and primeImplicant");
        ReadOnceRecognizer x = holding(5, "a*b+a*c+a*d+a*e+b*c+b*d+b*e+c*d+c*e+d*e");
        int[] pairs = {3, 5, 6, 9, 10, 12, 17, 18, 20, 24};
        due.is("primeImplicants(0)", x.primeImplicants(0), 10);
        for (int i = 0; i < 10; i++) {
            due.is("primeImplicant(0, " + i + ")", x.primeImplicant(0, i), pairs[i]);
        }
        due.is("primeImplicant(0, 10)", x.primeImplicant(0, 10), -1);
        due.is("primeImplicant(0, -1)", x.primeImplicant(0, -1), -1);
        due.is("primeImplicant(0, LOW)", x.primeImplicant(0, LOW), -1);
        due.is("primeImplicant(0, HIGH)", x.primeImplicant(0, HIGH), -1);
        x.setTable(0, 0);
        due.is("of 0", x.primeImplicants(0), 0);
        due.is("of 0, first", x.primeImplicant(0, 0), -1);
        x.setTable(0, 0xFFFFFFFFL);
        due.is("of 1", x.primeImplicants(0), 1);
        due.is("of 1, first", x.primeImplicant(0, 0), 0);
        due.is("of 1, second", x.primeImplicant(0, 1), -1);
        x.setTable(0, 1);
        due.is("not monotone", x.primeImplicants(0), -4);
        due.is("not monotone, first", x.primeImplicant(0, 0), -4);
        due.is("not monotone, none", x.primeImplicant(0, -1), -4);
    }

    private static void graphs() {
        due.section("13 neighbors");
        ReadOnceRecognizer x = holding(5, "a*b+b*d+c");
        int[] near = {2, 9, 0, 2, 0};
        for (int v = 0; v < 5; v++) {
            due.is("neighbors(0, " + v + ")", x.neighbors(0, v), near[v]);
        }
        due.is("neighbors(0, 5)", x.neighbors(0, 5), -2);
        due.is("neighbors(0, -1)", x.neighbors(0, -1), -2);
        due.is("neighbors(1, 5)", x.neighbors(1, 5), -2);
        due.is("neighbors(1, 0)", x.neighbors(1, 0), -3);
        x.setTable(0, 1);
        due.is("not monotone", x.neighbors(0, 0), -4);
        due.is("not monotone, no variable", x.neighbors(0, 5), -2);
        x.setTable(0, 0xFFFFFFFFL);
        due.is("of 1", x.neighbors(0, 0), 0);
    }

    private static void path(ReadOnceRecognizer x, int... want) {
        for (int i = 0; i < 4; i++) {
            due.is("inducedPath(0, " + i + ")", x.inducedPath(0, i), want[i]);
        }
    }

    private static void paths() {
        due.section("14 inducedPath");
        path(holding(4, "a*b+b*c+c*d"), 0, 1, 2, 3);
        path(holding(4, "b*d+d*a+a*c"), 1, 3, 0, 2);
        path(holding(5, "e*d+d*c+c*b"), 1, 2, 3, 4);
        path(holding(5, "a*b+b*c+c*d+d*e+e*a"), 0, 1, 2, 3);
        path(holding(5, "a*c+c*e+e*b+b*d+d*a"), 0, 2, 4, 1);
        path(holding(4, "c*a+a*b+b*d"), 2, 0, 1, 3);
        path(holding(4, "a*b+b*c+c*d+d*a"), -1, -1, -1, -1);
        path(holding(3, "a*b+b*c+c*a"), -1, -1, -1, -1);
        path(holding(3, "1"), -1, -1, -1, -1);
        ReadOnceRecognizer x = holding(4, "!a");
        due.is("inducedPath(0, 4)", x.inducedPath(0, 4), -2);
        due.is("inducedPath(0, -1)", x.inducedPath(0, -1), -2);
        due.is("inducedPath(1, 4)", x.inducedPath(1, 4), -2);
        due.is("inducedPath(1, 0)", x.inducedPath(1, 0), -3);
        due.is("inducedPath(0, 0)", x.inducedPath(0, 0), -4);
    }

    private static void cliques() {
        due.section("15 badClique");
        due.is("two triangles", holding(5, "c*d+d*e+e*c+a*b").badClique(0), 28);
        due.is("lowest of two", holding(5, "a*b+b*c+c*a+c*d+d*e+e*c").badClique(0), 7);
        due.is("part of a clique", holding(4, "a*b*c+a*d+b*d+c*d").badClique(0), 15);
        due.is("a path is normal", holding(4, "a*b+b*c+c*d").badClique(0), -1);
        due.is("path and triangle", holding(5, "a*b+b*c+c*d+d*e+e*c").badClique(0), 28);
        due.is("a variable", holding(1, "a").badClique(0), -1);
        due.is("0", holding(1, "0").badClique(0), -1);
        due.is("1", holding(1, "1").badClique(0), -1);
        due.is("not monotone", holding(1, "!a").badClique(0), -4);
    }

    private static void reasons() {
        due.section("16 reason");
        due.is("read-once", holding(5, "(a+b)*(c+d)*e").reason(0), 0);
        due.is("written twice, still read-once", holding(3, "a*b+a*c").reason(0), 0);
        due.is("0", holding(2, "0").reason(0), 0);
        due.is("1", holding(2, "a+!a").reason(0), 0);
        due.is("not monotone", holding(2, "a*!b").reason(0), 1);
        due.is("path", holding(4, "a*b+b*c+c*d").reason(0), 2);
        due.is("path before clique", holding(5, "a*b+b*c+c*d+d*e+e*c").reason(0), 2);
        due.is("not normal", holding(5, "a*b+b*c+c*a+d*e").reason(0), 3);
        due.is("reason(1)", new ReadOnceRecognizer().reason(1), -3);
    }

    private static void tree(ReadOnceRecognizer x, int[] types, int[] parents) {
        due.is("nodes(0)", x.nodes(0), types.length);
        for (int i = 0; i < types.length; i++) {
            due.is("nodeType(0, " + i + ")", x.nodeType(0, i), types[i]);
            due.is("parent(0, " + i + ")", x.parent(0, i), parents[i]);
        }
        for (int i : new int[] {LOW, -1, types.length, 9, HIGH}) {
            due.is("nodeType(0, " + i + ")", x.nodeType(0, i), -1);
            due.is("parent(0, " + i + ")", x.parent(0, i), -1);
        }
    }

    private static void trees() {
        due.section("17, 18, 19 nodes, nodeType, parent");
        tree(holding(3, "b"), new int[] {1}, new int[] {-1});
        tree(holding(3, "0"), new int[0], new int[0]);
        tree(holding(3, "1"), new int[0], new int[0]);
        tree(holding(5, "e*d*c*b*a"), new int[] {10, 0, 1, 2, 3, 4}, new int[] {-1, 0, 0, 0, 0, 0});
        tree(holding(5, "c+(e*(d+a*b))"), new int[] {11, 10, 11, 10, 0, 1, 3, 4, 2}, new int[] {-1, 0, 1, 2, 3, 3, 2, 1, 0});
        tree(holding(5, "(e+a)*(d+b)*c"), new int[] {10, 11, 0, 4, 11, 1, 3, 2}, new int[] {-1, 0, 1, 1, 0, 4, 4, 0});
        for (String not : new String[] {"!a", "a*b+b*c+c*d", "a*b+b*c+c*a"}) {
            ReadOnceRecognizer x = holding(4, not);
            due.is("nodes of " + not, x.nodes(0), -5);
            due.is("nodeType of " + not, x.nodeType(0, 0), -5);
            due.is("nodeType without node of " + not, x.nodeType(0, -1), -5);
            due.is("parent of " + not, x.parent(0, 0), -5);
            due.is("depth of " + not, x.depth(0, 0), -5);
            due.is("writeFormula of " + not, x.writeFormula(0), -5);
        }
    }

    private static void depths() {
        due.section("20 depth");
        ReadOnceRecognizer x = holding(5, "c+e*(d+a*b)");
        int[] levels = {5, 5, 2, 4, 3};
        for (int v = 0; v < 5; v++) {
            due.is("depth(0, " + v + ")", x.depth(0, v), levels[v]);
        }
        due.is("depth(0, 5)", x.depth(0, 5), -2);
        due.is("depth(0, -1)", x.depth(0, -1), -2);
        due.is("depth(1, 5)", x.depth(1, 5), -2);
        x = holding(4, "b");
        due.is("a lone leaf", x.depth(0, 1), 1);
        due.is("not essential", x.depth(0, 0), -1);
        due.is("no variable of four", x.depth(0, 4), -2);
        due.is("of 1", holding(2, "1").depth(0, 0), -1);
    }

    private static void writes(int n, String given, String want) {
        ReadOnceRecognizer x = holding(n, given);
        due.is("writeFormula of " + given, x.writeFormula(0), want.length());
        for (int i = 0; i < want.length(); i++) {
            due.is("output(" + i + ") of " + given, x.output(i), want.charAt(i));
        }
        for (int i : new int[] {LOW, -1, want.length(), HIGH}) {
            due.is("output(" + i + ") of " + given, x.output(i), -1);
        }
    }

    private static void formulas() {
        due.section("21, 22 writeFormula and output");
        writes(5, "e", "e");
        writes(3, "a*!a", "0");
        writes(3, "a+!a", "1");
        writes(5, "e+d+c+b+a", "a+b+c+d+e");
        writes(5, "e*d*c*b*a", "a*b*c*d*e");
        writes(5, "(e+d*b)*(c+a)", "(a+c)*(b*d+e)");
        writes(5, "c+e*(d+a*b)", "(a*b+d)*e+c");
        writes(5, "a*(b+c*(d+e))", "a*(b+c*(d+e))");
        writes(3, "a*b+a*c", "a*(b+c)");
        ReadOnceRecognizer x = holding(3, "a*b*c");
        x.writeFormula(0);
        Due.parse(x, "b", 0);
        due.is("shorter in place of longer", x.writeFormula(0), 1);
        due.is("output(0)", x.output(0), 98);
        due.is("output(1)", x.output(1), -1);
        Due.parse(x, "!b", 0);
        due.is("no formula", x.writeFormula(0), -5);
        due.is("output(0) stays", x.output(0), 98);
    }

    private static void feeding() {
        due.section("23 feed");
        ReadOnceRecognizer x = new ReadOnceRecognizer();
        for (int wrong : new int[] {LOW, -1, 0, 128, 353, HIGH}) {
            due.is("feed(" + wrong + ")", x.feed(wrong), -2);
        }
        due.is("feed(1)", x.feed(1), 1);
        due.is("feed(127)", x.feed(127), 2);
        due.is("parse(0)", x.parse(0), -100);
        for (int i = 1; i <= 80; i++) {
            due.is("feed " + i, x.feed(i % 2 == 1 ? 'a' : '+'), i);
        }
        due.is("the 81st", x.feed('a'), -6);
        due.is("the 81st, no byte", x.feed(0), -2);
        due.is("parse(8)", x.parse(8), -2);
        due.is("still full", x.feed('a'), -6);
        due.is("parse(0)", x.parse(0), -180);
        for (int i = 1; i <= 79; i++) {
            x.feed(i % 2 == 1 ? 'a' : '*');
        }
        due.is("parse(0) of 79 bytes", x.parse(0), 40);
        due.is("table(0)", x.table(0), 170);
    }

    private static void parses(int n, String text, int answer, long table) {
        ReadOnceRecognizer x = fresh(n);
        due.is("parse " + text, Due.parse(x, text, 5), answer);
        due.is("table of " + text, x.table(5), table);
        due.is("records of " + text, x.undoable(), answer >= 0 ? 1 : 0);
        due.is("buffer after " + text, x.feed('a'), 1);
    }

    private static void parsing() {
        due.section("24 parse");
        parses(3, "a", 1, 170);
        parses(3, "b", 1, 204);
        parses(3, "c", 1, 240);
        parses(4, "d", 1, 0xFF00);
        parses(5, "e", 1, 0xFFFF0000L);
        parses(1, "a", 1, 2);
        parses(3, "0", 0, 0);
        parses(3, "1", 0, 255);
        parses(5, "!0", 0, 0xFFFFFFFFL);
        parses(3, "a+b*c", 3, 170 | 204 & 240);
        parses(3, "(a+b)*c", 3, (170 | 204) & 240);
        parses(3, "a*b+c", 3, 170 & 204 | 240);
        parses(3, "!a*b", 2, 85 & 204);
        parses(3, "!(a*b)", 2, 119);
        parses(3, "!!a", 1, 170);
        parses(3, "a+a+a+a", 4, 170);
        parses(3, "((((((a))))))", 1, 170);
        parses(3, "!!!!!!a", 1, 170);
        parses(3, "!!!!!!a*!!!!!!b", 2, 136);
        parses(3, "!(!(!(a)))+!(!(!(b)))", 2, 85 | 51);
        parses(3, "(((((a)))))*(((((b)))))", 2, 136);
        parses(3, "(((((!a+b)))))", 2, 85 | 204);
        parses(3, "(!!!!!a*!!!!!b)", 2, 85 & 51);
    }

    private static void errors(int n, String text, int position) {
        parses(n, text, -100 - position, -3);
    }

    private static void parsingErrors() {
        due.section("24 parse, texts that are no formulas");
        errors(3, "", 0);
        errors(3, "+", 0);
        errors(3, "*a", 0);
        errors(3, ")", 0);
        errors(3, "a)", 1);
        errors(3, "(a", 2);
        errors(3, "(", 1);
        errors(3, "!", 1);
        errors(3, "()", 1);
        errors(3, "(a))", 3);
        errors(3, "a+", 2);
        errors(3, "a*", 2);
        errors(3, "a++b", 2);
        errors(3, "ab", 1);
        errors(3, "a!b", 1);
        errors(3, "a(b)", 1);
        errors(3, "a 1", 1);
        errors(3, "01", 1);
        errors(3, "2", 0);
        errors(3, "A", 0);
        errors(3, "`", 0);
        errors(3, "d", 0);
        errors(4, "e", 0);
        errors(5, "f", 0);
        errors(1, "a+b", 2);
        errors(3, "(a+b", 4);
        errors(3, "(a+b*", 5);
        errors(3, "!)", 1);
        errors(3, "(((((((a)))))))", 6);
        errors(3, "!!!!!!!a", 6);
        errors(3, "!!!!!!(a)", 6);
        errors(3, "!(!(!(!a)))", 6);
        errors(3, "(((((!a+(b+(c)))))))", 11);
        errors(3, "((((((a)))))", 12);
        errors(3, "((((((a)))))))", 13);
        ReadOnceRecognizer x = new ReadOnceRecognizer();
        Due.feedAll(x, "a");
        for (int slot : NO_SLOTS) {
            due.is("parse(" + slot + ")", x.parse(slot), -2);
        }
        due.is("the buffer is left", x.feed('+'), 2);
        x.setTable(0, 9);
        due.is("parse(0)", x.parse(0), -102);
        due.is("the slot is left", x.table(0), 9);
        due.is("no record", x.undoable(), 1);
    }

    private static void combining() {
        due.section("25 combine");
        ReadOnceRecognizer x = new ReadOnceRecognizer();
        x.setTable(0, 0x3C);
        x.setTable(1, 0x0F);
        due.is("and", x.combine(0, 0, 1, 2), 2);
        due.is("table(2)", x.table(2), 0x0C);
        due.is("or", x.combine(1, 0, 1, 3), 6);
        due.is("table(3)", x.table(3), 0x3F);
        due.is("exclusive or", x.combine(2, 0, 1, 7), 4);
        due.is("table(7)", x.table(7), 0x33);
        due.is("onto its left", x.combine(0, 0, 1, 0), 2);
        due.is("table(0)", x.table(0), 0x0C);
        due.is("with itself", x.combine(2, 1, 1, 1), 0);
        due.is("table(1)", x.table(1), 0);
        due.is("operator 3", x.combine(3, 0, 1, 2), -2);
        due.is("operator -1", x.combine(-1, 0, 1, 2), -2);
        for (int slot : NO_SLOTS) {
            due.is("left " + slot, x.combine(0, slot, 1, 2), -2);
            due.is("right " + slot, x.combine(0, 1, slot, 2), -2);
            due.is("target " + slot, x.combine(0, 1, 0, slot), -2);
            due.is("empty and target " + slot, x.combine(0, 6, 6, slot), -2);
        }
        due.is("left empty", x.combine(0, 6, 0, 2), -3);
        due.is("right empty", x.combine(0, 0, 6, 2), -3);
        due.is("operator before empty", x.combine(3, 6, 6, 2), -2);
    }

    private static void duals() {
        due.section("26 dual");
        ReadOnceRecognizer x = holding(3, "a*b+c");
        due.is("dual(0, 1)", x.dual(0, 1), 3);
        due.is("table(1)", x.table(1), 224);
        due.is("dual(1, 1)", x.dual(1, 1), 5);
        due.is("table(1)", x.table(1), 248);
        x.setTable(2, 0);
        due.is("dual of 0", x.dual(2, 2), 8);
        x.setTable(2, 1);
        due.is("dual(2, 3)", x.dual(2, 3), 7);
        due.is("table(3)", x.table(3), 127);
        due.is("dual(5, 0)", x.dual(5, 0), -3);
        due.is("dual(5, 8)", x.dual(5, 8), -2);
        due.is("dual(-1, 0)", x.dual(-1, 0), -2);
        x = fresh(5);
        x.setTable(0, 0xFFFFFFFFL);
        due.is("dual of 1", x.dual(0, 0), 0);
        due.is("dual of 0", x.dual(0, 0), 32);
        due.is("table(0)", x.table(0), 0xFFFFFFFFL);
    }

    private static void cofactors() {
        due.section("27 cofactor");
        ReadOnceRecognizer x = holding(5, "a*!e+c");
        due.is("e = 0", x.cofactor(0, 4, 0, 1), 24);
        Due.parse(x, "a+c", 7);
        due.is("table(1)", x.table(1), x.table(7));
        due.is("e = 1", x.cofactor(0, 4, 1, 1), 16);
        Due.parse(x, "c", 7);
        due.is("table(1)", x.table(1), x.table(7));
        due.is("onto itself", x.cofactor(0, 2, 1, 0), 32);
        due.is("table(0)", x.table(0), 0xFFFFFFFFL);
        due.is("variable 5", x.cofactor(0, 5, 0, 1), -2);
        due.is("variable -1", x.cofactor(0, -1, 0, 1), -2);
        due.is("bit 2", x.cofactor(0, 0, 2, 1), -2);
        due.is("bit -1", x.cofactor(0, 0, -1, 1), -2);
        due.is("slot 8", x.cofactor(8, 0, 0, 1), -2);
        due.is("target 8", x.cofactor(0, 0, 0, 8), -2);
        due.is("empty", x.cofactor(6, 0, 0, 1), -3);
        due.is("empty, bit 2", x.cofactor(6, 0, 2, 1), -2);
    }

    private static void substitutions() {
        due.section("28 substitute");
        ReadOnceRecognizer x = holding(4, "a*b+c");
        Due.parse(x, "!a+d", 1);
        due.is("substitute(0, 0, 1, 2)", x.substitute(0, 0, 1, 2), 11);
        Due.parse(x, "(!a+d)*b+c", 3);
        due.is("table(2)", x.table(2), x.table(3));
        due.is("into itself", x.substitute(0, 2, 0, 0), 10);
        Due.parse(x, "a*b+c", 3);
        due.is("table(0)", x.table(0), x.table(3));
        due.is("onto the inner", x.substitute(0, 1, 1, 1), 10);
        Due.parse(x, "a*d+c", 3);
        due.is("table(1) is a*(!a+d)+c", x.table(1), x.table(3));
        due.is("variable 4", x.substitute(0, 4, 1, 2), -2);
        due.is("outer 8", x.substitute(8, 0, 1, 2), -2);
        due.is("inner 8", x.substitute(0, 0, 8, 2), -2);
        due.is("target 8", x.substitute(0, 0, 1, 8), -2);
        due.is("outer empty", x.substitute(7, 0, 1, 2), -3);
        due.is("inner empty", x.substitute(0, 0, 7, 2), -3);
        due.is("inner empty, variable 4", x.substitute(0, 4, 7, 2), -2);
    }

    private static void exchanges() {
        due.section("29 exchange");
        ReadOnceRecognizer x = holding(5, "a*!b+e");
        due.is("a and b", x.exchange(0, 0, 1, 1), 20);
        Due.parse(x, "b*!a+e", 7);
        due.is("table(1)", x.table(1), x.table(7));
        due.is("a and e", x.exchange(0, 4, 0, 1), 20);
        Due.parse(x, "e*!b+a", 7);
        due.is("table(1)", x.table(1), x.table(7));
        long before = x.table(0);
        due.is("the same variable", x.exchange(0, 2, 2, 0), 20);
        Due.parse(x, "!a", 2);
        due.is("a function that is 1 at point 0", x.exchange(2, 0, 3, 2), 16);
        Due.parse(x, "!d", 7);
        due.is("table(2)", x.table(2), x.table(7));
        due.is("table(0)", x.table(0), before);
        due.is("first 5", x.exchange(0, 5, 0, 1), -2);
        due.is("second 5", x.exchange(0, 0, 5, 1), -2);
        due.is("second -1", x.exchange(0, 0, -1, 1), -2);
        due.is("slot 8", x.exchange(8, 0, 0, 1), -2);
        due.is("target 8", x.exchange(0, 0, 0, 8), -2);
        due.is("empty", x.exchange(6, 0, 0, 1), -3);
        due.is("empty, second 5", x.exchange(6, 0, 5, 1), -2);
    }

    private static void randoms() {
        due.section("30 random");
        ReadOnceRecognizer x = fresh(4);
        due.is("random(5, 3, 4)", x.random(5, 3, 4), 8);
        due.is("table(4)", x.table(4), 65280);
        for (int seed : new int[] {LOW, -77, 0, 1, HIGH}) {
            for (int draws = 0; draws <= 12; draws++) {
                long want = 0;
                int z = seed;
                for (int i = 0; i < draws; i++) {
                    z = z * 1103515245 + 12345;
                    int drawn = (z >>> 16) % 16;
                    for (int p = 0; p < 16; p++) {
                        want |= (p & drawn) == drawn ? 1L << p : 0;
                    }
                }
                due.is("random(" + seed + ", " + draws + ")", x.random(seed, draws, 1), Long.bitCount(want));
                due.is("its table", x.table(1), want);
            }
        }
        due.is("draws 13", x.random(1, 13, 1), -2);
        due.is("draws -1", x.random(1, -1, 1), -2);
        for (int slot : NO_SLOTS) {
            due.is("target " + slot, x.random(1, 1, slot), -2);
        }
    }

    private static void trials() {
        due.section("31 readOnceTrials");
        for (int n = 1; n <= 5; n++) {
            ReadOnceRecognizer x = fresh(n);
            ReadOnceRecognizer y = fresh(n);
            for (int seed : new int[] {3, HIGH - 4, -9}) {
                int want = 0;
                for (int i = 0; i < 30; i++) {
                    y.random(seed + i, 4, 0);
                    want += y.reason(0) == 0 ? 1 : 0;
                }
                due.is("readOnceTrials(" + seed + ", 4, 30)", x.readOnceTrials(seed, 4, 30), want);
            }
            due.is("no draws", x.readOnceTrials(0, 0, 30), 30);
            due.is("one trial, no draws", x.readOnceTrials(0, 0, 1), 1);
            due.is("trials 0", x.readOnceTrials(0, 0, 0), -2);
            due.is("trials 31", x.readOnceTrials(0, 0, 31), -2);
            due.is("draws 13", x.readOnceTrials(0, 13, 1), -2);
            due.is("draws -1", x.readOnceTrials(0, -1, 1), -2);
            due.is("usedSlots()", x.usedSlots(), 0);
            due.is("undoable()", x.undoable(), 0);
        }
    }

    private static void samples() {
        due.section("32, 33 addSample and removeSample");
        ReadOnceRecognizer x = fresh(5);
        for (int p = 0; p < 32; p++) {
            due.is("addSample(" + p + ", 0)", x.addSample(p, 0), p + 1);
        }
        due.is("replaced", x.addSample(31, 1), 32);
        due.is("extensions()", x.extensions(), 1);
        due.is("extension(0)", x.extension(0), 0x80000000L);
        due.is("addSample(32, 0)", x.addSample(32, 0), -2);
        due.is("addSample(-1, 0)", x.addSample(-1, 0), -2);
        due.is("addSample(0, 2)", x.addSample(0, 2), -2);
        due.is("addSample(0, -1)", x.addSample(0, -1), -2);
        due.is("replaced again", x.addSample(31, 0), 32);
        due.is("extension(0)", x.extension(0), 0);
        due.is("removeSample(31)", x.removeSample(31), 31);
        due.is("removeSample(31)", x.removeSample(31), -1);
        due.is("removeSample(32)", x.removeSample(32), -2);
        due.is("removeSample(LOW)", x.removeSample(LOW), -2);
        due.is("extensions()", x.extensions(), 2);
        due.is("samples make no record", x.undoable(), 0);
        x.setVariables(2);
        due.is("addSample(4, 0)", x.addSample(4, 0), -2);
        due.is("addSample(3, 0)", x.addSample(3, 0), 1);
    }

    private static void extensions() {
        due.section("34, 35, 36 extensions, extension, simplestExtension");
        int[] all = {0, 3, 6, 19, 102, 839};
        for (int n = 1; n <= 5; n++) {
            ReadOnceRecognizer x = fresh(n);
            due.is("extensions() of " + n, x.extensions(), all[n]);
            due.is("extension(0)", x.extension(0), 0);
            due.is("the last", x.extension(all[n] - 1), (1L << (1 << n)) - 1);
            due.is("one more", x.extension(all[n]), -1);
            due.is("extension(-1)", x.extension(-1), -1);
            due.is("extension(LOW)", x.extension(LOW), -1);
            due.is("extension(HIGH)", x.extension(HIGH), -1);
            due.is("simplestExtension()", x.simplestExtension(), 0);
            long before = -1;
            for (int i = 0; i < Math.min(all[n], 400); i++) {
                long table = x.extension(i);
                due.holds("ascending", table > before);
                before = table;
            }
        }
        ReadOnceRecognizer x = new ReadOnceRecognizer();
        x.addSample(0, 1);
        due.is("only 1", x.extensions(), 1);
        due.is("simplestExtension()", x.simplestExtension(), 255);
        x.addSample(7, 0);
        due.is("none", x.extensions(), 0);
        due.is("extension(0)", x.extension(0), -1);
        due.is("simplestExtension()", x.simplestExtension(), -1);
        x = new ReadOnceRecognizer();
        x.addSample(1, 0);
        x.addSample(2, 0);
        x.addSample(4, 0);
        x.addSample(3, 1);
        due.is("two samples of the majority", x.simplestExtension(), 136);
        x.addSample(5, 1);
        due.is("a*(b+c)", x.simplestExtension(), 168);
        x.addSample(6, 1);
        due.is("the majority is not read-once", x.simplestExtension(), -1);
    }

    private static void counts() {
        due.section("37 readOnceCount");
        int[][] want = {{}, {2, 1}, {2, 2, 2}, {2, 3, 6, 8}, {2, 4, 12, 32, 52}, {2, 5, 20, 80, 260, 472}};
        for (int n = 1; n <= 5; n++) {
            ReadOnceRecognizer x = fresh(n);
            x.addSample(0, 1);
            for (int k = 0; k <= n; k++) {
                due.is("readOnceCount(" + k + ") of " + n, x.readOnceCount(k), want[n][k]);
            }
            due.is("k too great", x.readOnceCount(n + 1), -2);
            due.is("k -1", x.readOnceCount(-1), -2);
            due.is("k LOW", x.readOnceCount(LOW), -2);
            due.is("k HIGH", x.readOnceCount(HIGH), -2);
        }
    }

    private static void steps() {
        due.section("38, 39 addStep and clearSteps");
        ReadOnceRecognizer x = new ReadOnceRecognizer();
        for (int i = 1; i <= 8; i++) {
            due.is("step " + i, x.addStep((i - 1) % 6, LOW, HIGH, -1), i);
        }
        due.is("a ninth", x.addStep(0, 0, 0, 0), -6);
        due.is("a ninth, operation 6", x.addStep(6, 0, 0, 0), -2);
        due.is("a ninth, operation -1", x.addStep(-1, 0, 0, 0), -2);
        due.is("runSteps()", x.runSteps(), 0);
        due.is("clearSteps()", x.clearSteps(), 8);
        due.is("clearSteps()", x.clearSteps(), 0);
        due.is("addStep", x.addStep(5, 0, 0, 0), 1);
    }

    private static void runs() {
        due.section("40 runSteps");
        ReadOnceRecognizer x = new ReadOnceRecognizer();
        x.setTable(0, 170);
        x.setTable(1, 204);
        x.addStep(0, 0, 1, 2);
        x.addStep(1, 0, 1, 3);
        x.addStep(2, 2, 3, 4);
        x.addStep(3, 2, HIGH, 5);
        x.addStep(4, 5, 0, 6);
        x.addStep(5, 5, 0, 7);
        x.addStep(5, 5, 3, 0);
        x.addStep(0, 8, 0, 1);
        due.is("runSteps()", x.runSteps(), 6);
        long[] want = {170, 204, 136, 238, 102, 238, 204, 255};
        for (int slot = 0; slot < 8; slot++) {
            due.is("table(" + slot + ")", x.table(slot), want[slot]);
        }
        due.is("undoable()", x.undoable(), 8);
        due.is("the program stays", x.runSteps(), 6);
        due.is("undoable()", x.undoable(), 10);
        due.is("clearSteps()", x.clearSteps(), 8);
        x.setVariables(2);
        x.setTable(0, 8);
        x.addStep(0, 0, 1, 3);
        x.addStep(3, 0, 0, 1);
        due.is("an operand comes too late", x.runSteps(), 1);
        due.is("and is there the next time", x.runSteps(), 2);
        due.is("undo()", x.undo(), 1);
        due.is("undo()", x.undo(), 3);
        due.is("table(3)", x.table(3), -3);
        x.clearSteps();
        x.addStep(2, 0, 0, 5);
        due.is("a result of 0 points is no error", x.runSteps(), 1);
        due.is("table(5)", x.table(5), 0);
    }

    private static void undoing() {
        due.section("41, 49 undo and undoable");
        ReadOnceRecognizer x = new ReadOnceRecognizer();
        due.is("undo()", x.undo(), -7);
        for (int i = 0; i < 12; i++) {
            x.setTable(i % 8, i + 1);
            due.is("undoable()", x.undoable(), Math.min(10, i + 1));
        }
        for (int i = 11; i >= 2; i--) {
            due.is("undo()", x.undo(), i % 8);
            due.is("its content", x.table(i % 8), i >= 8 ? i - 7 : -3);
            due.is("undoable()", x.undoable(), i - 2);
        }
        due.is("undo()", x.undo(), -7);
        due.is("table(0) stays", x.table(0), 1);
        due.is("table(1) stays", x.table(1), 2);
        x.setTable(0, 1);
        due.is("a change to the same", x.undoable(), 1);
        due.is("undo()", x.undo(), 0);
        due.is("table(0)", x.table(0), 1);
    }

    private static void historyOfEveryMethod() {
        due.section("history");
        ReadOnceRecognizer x = new ReadOnceRecognizer();
        x.setTable(0, 170);
        Due.parse(x, "b", 1);
        x.combine(0, 0, 1, 2);
        x.dual(2, 3);
        x.cofactor(3, 0, 1, 4);
        x.substitute(3, 0, 1, 5);
        x.exchange(0, 0, 2, 6);
        x.random(1, 2, 7);
        x.clear(0);
        due.is("undoable()", x.undoable(), 9);
        int[] order = {0, 7, 6, 5, 4, 3, 2, 1, 0};
        for (int slot : order) {
            due.is("undo()", x.undo(), slot);
            due.is("its content", x.table(slot), slot == 0 && x.usedSlots() > 0 ? 170 : -3);
        }
        due.is("undo()", x.undo(), -7);
        x.setTable(0, 5);
        x.setTable(0, 300);
        x.clear(1);
        x.undo();
        due.is("calls that fail make no record", x.undo(), -7);
    }

    private static void saving() {
        due.section("42, 43 save and restore");
        ReadOnceRecognizer x = fresh(4);
        due.is("restore()", x.restore(), -7);
        x.setTable(2, 77);
        x.addSample(5, 1);
        x.addStep(3, 2, 0, 6);
        due.is("save()", x.save(), 1);
        due.is("undoable() after save", x.undoable(), 1);
        due.is("undo() after save", x.undo(), 2);
        x.setTable(1, 1);
        x.addSample(5, 0);
        x.addSample(6, 0);
        x.clearSteps();
        x.addStep(0, 7, 7, 7);
        x.createArray(0, 1);
        x.setElement(0, 0, 9);
        x.writeFormula(2);
        Due.feedAll(x, "abc");
        due.is("restore()", x.restore(), 1);
        due.is("undoable()", x.undoable(), 0);
        due.is("table(1)", x.table(1), -3);
        due.is("table(2)", x.table(2), 77);
        due.is("removeSample(6)", x.removeSample(6), -1);
        due.is("element(0, 0)", x.element(0, 0), 9);
        due.is("feed", x.feed('a'), 4);
        due.is("runSteps()", x.runSteps(), 1);
        x.addSample(0, 1);
        due.is("only 1 has this sample", x.extensions(), 1);
        x.setVariables(1);
        due.is("restore() again", x.restore(), 1);
        due.is("variables()", x.variables(), 4);
        due.is("removeSample(0)", x.removeSample(0), -1);
        due.is("removeSample(5)", x.removeSample(5), 0);
        due.is("table(6)", x.table(6), -3);
        x.clear(2);
        due.is("save() of no slots", x.save(), 0);
        x.setTable(2, 3);
        due.is("restore() of no slots", x.restore(), 0);
        due.is("clearSteps()", x.clearSteps(), 1);
        due.is("table(2)", x.table(2), -3);
    }

    private static void arrays() {
        due.section("44, 45, 46 createArray, setElement, element");
        ReadOnceRecognizer x = new ReadOnceRecognizer();
        for (int array = 0; array < 4; array++) {
            due.is("element", x.element(array, 0), Long.MIN_VALUE);
            due.is("setElement", x.setElement(array, 0, 1), -11);
            due.is("setElement, no index", x.setElement(array, -1, 1), -11);
            due.is("createArray", x.createArray(array, 16), 1);
            due.is("element(15)", x.element(array, 15), 0);
            due.is("setElement(15)", x.setElement(array, 15, array + 100), 1);
            due.is("setElement(0)", x.setElement(array, 0, LOW), 1);
        }
        for (int array = 0; array < 4; array++) {
            due.is("element(15)", x.element(array, 15), array + 100);
            due.is("element(0)", x.element(array, 0), LOW);
            due.is("element(14)", x.element(array, 14), 0);
            for (int i : new int[] {LOW, -1, 16, HIGH}) {
                due.is("element(" + i + ")", x.element(array, i), Long.MIN_VALUE);
                due.is("setElement(" + i + ")", x.setElement(array, i, 0), -13);
            }
        }
        for (int array : new int[] {LOW, -1, 4, HIGH}) {
            due.is("createArray(" + array + ")", x.createArray(array, 1), -2);
            due.is("createArray, negative", x.createArray(array, -1), -2);
            due.is("setElement(" + array + ")", x.setElement(array, 0, 1), -2);
            due.is("element(" + array + ")", x.element(array, 0), Long.MIN_VALUE);
        }
        due.is("length 17", x.createArray(0, 17), -2);
        due.is("length HIGH", x.createArray(0, HIGH), -2);
        due.is("length -1", x.createArray(0, -1), -14);
        due.is("length LOW", x.createArray(0, LOW), -14);
        due.is("the old one stays", x.element(0, 15), 100);
        due.is("in its place", x.createArray(0, 2), 1);
        due.is("element(0, 0)", x.element(0, 0), 0);
        due.is("element(0, 2)", x.element(0, 2), Long.MIN_VALUE);
        x.createArray(0, 16);
        due.is("element(0, 15)", x.element(0, 15), 0);
        due.is("length 0", x.createArray(0, 0), 1);
        due.is("element(0, 0)", x.element(0, 0), Long.MIN_VALUE);
        due.is("setElement(0, 0)", x.setElement(0, 0, 1), -13);
    }

    private static void comparing() {
        due.section("47 compare");
        ReadOnceRecognizer x = holding(3, "a*b+c");
        due.is("no array", x.compare(0, 0), -11);
        x.createArray(0, 0);
        due.is("length 0", x.compare(0, 0), -1);
        x.createArray(1, 1);
        due.is("first differs", x.compare(1, 0), 0);
        x.setElement(1, 0, 3);
        due.is("shorter", x.compare(1, 0), -1);
        x.createArray(2, 4);
        x.setElement(2, 0, 3);
        x.setElement(2, 1, 4);
        due.is("0 is not NONE", x.compare(2, 0), 2);
        x.setElement(2, 2, -1);
        due.is("the last differs", x.compare(2, 0), 3);
        x.setElement(2, 3, -1);
        due.is("longer", x.compare(2, 0), -1);
        x.setTable(1, 1);
        due.is("not monotone", x.compare(2, 1), -4);
        due.is("not monotone, no array", x.compare(3, 1), -4);
        due.is("empty, no array", x.compare(3, 2), -3);
        due.is("array 4", x.compare(4, 2), -2);
        due.is("array -1", x.compare(-1, 0), -2);
        due.is("slot 8", x.compare(3, 8), -2);
        due.is("slot -1", x.compare(0, -1), -2);
    }

    private static void slotsOutOfRange() {
        due.section("slots out of range");
        ReadOnceRecognizer x = holding(3, "a*b+c");
        for (int slot : NO_SLOTS) {
            due.is("table", x.table(slot), -2);
            due.is("clear", x.clear(slot), -2);
            due.is("value", x.value(slot, 0), -2);
            due.is("essential", x.essential(slot), -2);
            due.is("isMonotone", x.isMonotone(slot), -2);
            due.is("violatingPoint", x.violatingPoint(slot), -2);
            due.is("primeImplicants", x.primeImplicants(slot), -2);
            due.is("primeImplicant", x.primeImplicant(slot, 0), -2);
            due.is("neighbors", x.neighbors(slot, 0), -2);
            due.is("inducedPath", x.inducedPath(slot, 0), -2);
            due.is("badClique", x.badClique(slot), -2);
            due.is("reason", x.reason(slot), -2);
            due.is("nodes", x.nodes(slot), -2);
            due.is("nodeType", x.nodeType(slot, 0), -2);
            due.is("parent", x.parent(slot, 0), -2);
            due.is("depth", x.depth(slot, 0), -2);
            due.is("writeFormula", x.writeFormula(slot), -2);
            due.is("dual", x.dual(slot, 0), -2);
            due.is("dual's target", x.dual(0, slot), -2);
        }
    }

    private static void emptySlots() {
        due.section("empty slots");
        ReadOnceRecognizer x = new ReadOnceRecognizer();
        due.is("table", x.table(0), -3);
        due.is("clear", x.clear(0), -3);
        due.is("value", x.value(0, 0), -3);
        due.is("essential", x.essential(0), -3);
        due.is("isMonotone", x.isMonotone(0), -3);
        due.is("violatingPoint", x.violatingPoint(0), -3);
        due.is("primeImplicants", x.primeImplicants(0), -3);
        due.is("primeImplicant", x.primeImplicant(0, -1), -3);
        due.is("neighbors", x.neighbors(0, 0), -3);
        due.is("inducedPath", x.inducedPath(0, 0), -3);
        due.is("badClique", x.badClique(0), -3);
        due.is("reason", x.reason(0), -3);
        due.is("nodes", x.nodes(0), -3);
        due.is("nodeType", x.nodeType(0, -1), -3);
        due.is("parent", x.parent(0, -1), -3);
        due.is("depth", x.depth(0, 0), -3);
        due.is("writeFormula", x.writeFormula(0), -3);
    }

    private static void checksInOrder() {
        due.section("checks in order");
        ReadOnceRecognizer x = new ReadOnceRecognizer();
        due.is("value, point 8 and empty", x.value(0, 8), -2);
        due.is("neighbors, variable 3 and empty", x.neighbors(0, 3), -2);
        due.is("inducedPath, 4 and empty", x.inducedPath(0, 4), -2);
        due.is("depth, variable 3 and empty", x.depth(0, 3), -2);
        due.is("compare, array 4 and empty", x.compare(4, 0), -2);
        x.setTable(0, 1);
        due.is("depth, variable 3 and not read-once", x.depth(0, 3), -2);
        due.is("inducedPath, 4 and not monotone", x.inducedPath(0, 4), -2);
    }

    private static void errorsLeaveAlone() {
        due.section("errors leave the state alone");
        ReadOnceRecognizer x = new ReadOnceRecognizer();
        x.setTable(0, 170);
        x.setTable(1, 1);
        x.writeFormula(0);
        x.combine(0, 0, 2, 0);
        x.dual(2, 0);
        x.cofactor(2, 0, 0, 0);
        x.substitute(0, 0, 2, 0);
        x.exchange(2, 0, 1, 0);
        x.random(1, 13, 0);
        x.setVariables(0);
        x.addSample(0, 2);
        x.writeFormula(1);
        x.restore();
        due.is("table(0)", x.table(0), 170);
        due.is("undoable()", x.undoable(), 2);
        due.is("removeSample(0)", x.removeSample(0), -1);
        due.is("output(0)", x.output(0), 97);
        due.is("usedSlots()", x.usedSlots(), 2);
    }
}
