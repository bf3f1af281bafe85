/** Promises 17 to 22: the cotree, its formula, and the output buffer. */
final class CotreeEdges {
    private static final String[] NOT_READ_ONCE = {"!a", "a*b+b*c+c*d", "a*b+b*c+c*a"};
    /** Five levels, nine nodes: no cotree has more of either. */
    private static final String DEEPEST = "a*(b+c*(d+e))";

    private final Edges e;
    private final Due due;

    CotreeEdges(Edges e) {
        this.e = e;
        this.due = e.due;
    }

    void all() {
        nodes();
        nodeType();
        parent();
        depth();
        writeFormula();
        writeFormulaRefusals();
        output();
    }

    /** A function that is not read-once answers NOT_READ_ONCE, for each of the three reasons. */
    private void notReadOnce(String what, Edges.Call call) {
        e.refusedBusy(what + ", not monotone", -5, call);
        for (String formula : NOT_READ_ONCE) {
            due.is(what + " of " + formula, call.on(inSlotTwo(formula)), -5);
        }
    }

    private static ReadOnceRecognizer inSlotTwo(String formula) {
        ReadOnceRecognizer x = Edges.fresh(4);
        Due.parse(x, formula, 2);
        return x;
    }

    private void nodes() {
        e.promise(17);
        e.says("Returns the number of nodes of the cotree of a function");
        due.is("one leaf", Edges.holding(1, "a").nodes(0), 1);
        due.is("one leaf of five variables", Edges.holding(5, "e").nodes(0), 1);
        due.is("two leaves", Edges.holding(2, "a+b").nodes(0), 3);
        due.is("five leaves, one node above", Edges.holding(5, "a*b*c*d*e").nodes(0), 6);
        due.is("the most nodes", Edges.holding(5, DEEPEST).nodes(0), 9);

        e.says("slot: the slot, 0 to 7");
        e.everySlot("nodes", 5, ReadOnceRecognizer::nodes);

        e.says("Returns the number, which is 0 for a constant function");
        for (int n = 1; n <= 5; n++) {
            due.is("of 0", Edges.holding(n, "0").nodes(0), 0);
            due.is("of 1", Edges.holding(n, "1").nodes(0), 0);
        }

        e.says("BAD_ARGUMENT if the slot is out of range (checked first)");
        e.badSlots("nodes", ReadOnceRecognizer::nodes);

        e.says("EMPTY_SLOT if it is empty (checked second)");
        e.emptySlots("nodes", ReadOnceRecognizer::nodes);

        e.says("NOT_READ_ONCE if the function is not read-once");
        notReadOnce("nodes", x -> x.nodes(2));
    }

    private void nodeType() {
        e.promise(18);
        e.says("Returns the type of a node of the cotree",
            "Returns the variable if the node is a leaf, 10 if it is an and node, 11 if it is an or node");
        types("a*(b+c*(d+e))", 10, 0, 11, 1, 10, 2, 11, 3, 4);
        types("(d+e*c)*b+a", 11, 0, 10, 1, 11, 10, 2, 4, 3);
        types("e", 4);
        types("a", 0);

        e.says("slot: the slot, 0 to 7");
        e.everySlot("nodeType", 11, (x, slot) -> x.nodeType(slot, 0));
        e.everySlot("nodeType", 2, (x, slot) -> x.nodeType(slot, 4));

        e.says("node: the number of the node");
        ReadOnceRecognizer x = Edges.holding(5, DEEPEST);
        due.is("the first", x.nodeType(0, 0), 10);
        due.is("the last of nine", x.nodeType(0, 8), 4);

        e.says("BAD_ARGUMENT if the slot is out of range (checked first)");
        e.badSlots("nodeType", (y, slot) -> y.nodeType(slot, 0));
        e.badSlots("nodeType", (y, slot) -> y.nodeType(slot, -1));

        e.says("EMPTY_SLOT if it is empty (checked second)");
        e.emptySlots("nodeType", (y, slot) -> y.nodeType(slot, 0));
        e.emptySlots("nodeType", (y, slot) -> y.nodeType(slot, -1));

        e.says("NOT_READ_ONCE if the function is not read-once (checked third)");
        for (int node : new int[] {Edges.LOW, -1, 0, 9, Edges.HIGH}) {
            notReadOnce("nodeType " + node, y -> y.nodeType(2, node));
        }

        e.says("NONE if there is no such node");
        for (int node : new int[] {Edges.LOW, -1, 1, 9, Edges.HIGH}) {
            e.refusedBusy("a leaf, node " + node, -1, y -> y.nodeType(0, node));
            e.refusedBusy("a constant, node " + node, -1, y -> y.nodeType(1, node));
        }
        due.is("a constant has no root", Edges.holding(3, "1").nodeType(0, 0), -1);
        due.is("the tenth of nine", x.nodeType(0, 9), -1);
    }

    private void types(String formula, int... want) {
        ReadOnceRecognizer x = Edges.holding(5, formula);
        for (int node = 0; node < want.length; node++) {
            due.is("nodeType(0, " + node + ") of " + formula, x.nodeType(0, node), want[node]);
        }
        due.is("no further node of " + formula, x.nodeType(0, want.length), -1);
    }

    private void parent() {
        e.promise(19);
        e.says("Returns the parent of a node of the cotree", "Returns the number of the parent");
        parents("a*(b+c*(d+e))", -1, 0, 0, 2, 2, 4, 4, 6, 6);
        parents("(a+b)*(c+d)*e", -1, 0, 1, 1, 0, 4, 4, 0);
        parents("a+b+c+d+e", -1, 0, 0, 0, 0, 0);

        e.says("slot: the slot, 0 to 7");
        e.everySlot("parent", 1, (x, slot) -> x.parent(slot, 3));
        e.everySlot("parent", 0, (x, slot) -> x.parent(slot, 4));

        e.says("node: the number of the node");
        ReadOnceRecognizer x = Edges.holding(5, DEEPEST);
        due.is("the first below the root", x.parent(0, 1), 0);
        due.is("the last of nine", x.parent(0, 8), 6);

        e.says("BAD_ARGUMENT if the slot is out of range (checked first)");
        e.badSlots("parent", (y, slot) -> y.parent(slot, 0));
        e.badSlots("parent", (y, slot) -> y.parent(slot, -1));

        e.says("EMPTY_SLOT if it is empty (checked second)");
        e.emptySlots("parent", (y, slot) -> y.parent(slot, 0));
        e.emptySlots("parent", (y, slot) -> y.parent(slot, -1));

        e.says("NOT_READ_ONCE if the function is not read-once (checked third)");
        for (int node : new int[] {Edges.LOW, -1, 0, 9, Edges.HIGH}) {
            notReadOnce("parent " + node, y -> y.parent(2, node));
        }

        e.says("NONE if the node is the root or there is no such node");
        for (int node : new int[] {Edges.LOW, -1, 0, 1, 9, Edges.HIGH}) {
            e.refusedBusy("a leaf, node " + node, -1, y -> y.parent(0, node));
            e.refusedBusy("a constant, node " + node, -1, y -> y.parent(1, node));
        }
        due.is("the root", x.parent(0, 0), -1);
        due.is("the tenth of nine", x.parent(0, 9), -1);
    }

    private void parents(String formula, int... want) {
        ReadOnceRecognizer x = Edges.holding(5, formula);
        for (int node = 0; node < want.length; node++) {
            due.is("parent(0, " + node + ") of " + formula, x.parent(0, node), want[node]);
        }
        due.is("no further node of " + formula, x.parent(0, want.length), -1);
    }

    private void depth() {
        e.promise(20);
        e.says("Returns the number of nodes on the path from the root of the cotree to the leaf of a variable, both included",
            "Returns the number of nodes");
        ReadOnceRecognizer x = Edges.holding(5, DEEPEST);
        int[] levels = {2, 3, 4, 5, 5};
        for (int v = 0; v < 5; v++) {
            due.is("depth(0, " + v + ")", x.depth(0, v), levels[v]);
        }
        due.is("a root that is a leaf", Edges.holding(1, "a").depth(0, 0), 1);

        e.says("slot: the slot, 0 to 7");
        e.everySlot("depth", 3, (y, slot) -> y.depth(slot, 0));
        e.everySlot("depth", 2, (y, slot) -> y.depth(slot, 2));
        e.badSlots("depth", (y, slot) -> y.depth(slot, 0));

        e.says("variable: the variable, 0 to n - 1");
        for (int n = 2; n <= 5; n++) {
            String ends = "a+" + (char) ('a' + n - 1);
            due.is("the first", Edges.holding(n, ends).depth(0, 0), 2);
            due.is("the last", Edges.holding(n, ends).depth(0, n - 1), 2);
        }
        e.outsideByVariables("depth(7, ..)", 0, n -> n - 1, (y, variable) -> y.depth(7, variable));

        e.says("BAD_ARGUMENT if an argument is out of range (checked first)");
        e.refused("both", -2, y -> y.depth(8, 5));
        e.outsideByVariables("an empty slot", 0, n -> n - 1, (y, variable) -> y.depth(3, variable));
        e.outsideByVariables("not read-once", 0, n -> n - 1, (y, variable) -> y.depth(2, variable));

        e.says("EMPTY_SLOT if the slot is empty (checked second)");
        e.emptySlots("depth", (y, slot) -> y.depth(slot, 0));

        e.says("NOT_READ_ONCE if the function is not read-once (checked third)");
        notReadOnce("depth", y -> y.depth(2, 0));
        due.is("a variable that is not essential", inSlotTwo("a*b+b*c+c*a").depth(2, 3), -5);

        e.says("NONE if the variable is not essential");
        e.refusedBusy("the constant 1", -1, y -> y.depth(1, 0));
        e.refusedAt(Edges.Kind.BUSY, 5, "e of a", -1, y -> y.depth(0, 4));
        e.refusedAt(Edges.Kind.BUSY, 2, "b of a", -1, y -> y.depth(0, 1));
        due.is("the constant 0", Edges.holding(4, "0").depth(0, 3), -1);
    }

    private void written(int n, String given, String want) {
        ReadOnceRecognizer x = Edges.holding(n, given);
        due.is("writeFormula of " + given, x.writeFormula(0), want.length());
        due.same("the formula of " + given, Due.written(x), want);
    }

    private void writeFormula() {
        e.promise(21);
        e.says("Writes the read-once formula of a function to the output buffer, in place of its previous content");
        ReadOnceRecognizer x = Edges.holding(5, DEEPEST);
        x.setTable(1, 0);
        due.is("a long one", x.writeFormula(0), 13);
        due.is("a short one", x.writeFormula(1), 1);
        due.same("in its place", Due.written(x), "0");
        due.is("the long one again", x.writeFormula(0), 13);
        due.same("all of it", Due.written(x), DEEPEST);

        e.says("The formula of a leaf is the letter of its variable");
        for (int n = 1; n <= 5; n++) {
            for (int v = 0; v < n; v++) {
                String letter = String.valueOf((char) ('a' + v));
                written(n, letter, letter);
            }
        }

        e.says("The formula of an or node is the formulas of its children joined by \"+\"");
        written(2, "b+a", "a+b");
        written(5, "e+d+c+b+a", "a+b+c+d+e");
        written(5, "e*d+c*b+a", "a+b*c+d*e");

        e.says("The formula of an and node is the formulas of its children joined by \"*\", where the formula of a child that is"
            + " an or node stands in parentheses");
        written(2, "b*a", "a*b");
        written(5, "e*d*c*b*a", "a*b*c*d*e");
        written(5, "(e+d)*(c+b)*a", "a*(b+c)*(d+e)");
        written(5, "(c+b*(e+d))*a", "a*(b*(d+e)+c)");

        e.says("The formula of a constant function is \"0\" or \"1\"");
        for (int n = 1; n <= 5; n++) {
            written(n, "a*!a", "0");
            written(n, "a+!a", "1");
        }
    }

    private void writeFormulaRefusals() {
        e.says("slot: the slot, 0 to 7");
        e.everySlot("writeFormula", 5, ReadOnceRecognizer::writeFormula);

        e.says("Returns the length of the formula");
        due.is("the shortest", Edges.holding(1, "0").writeFormula(0), 1);
        due.is("the longest", Edges.holding(5, DEEPEST).writeFormula(0), 13);
        due.is("as long, another way", Edges.holding(5, "(a+b)*(c+d)*e").writeFormula(0), 13);

        e.says("BAD_ARGUMENT if the slot is out of range (checked first)");
        e.badSlots("writeFormula", ReadOnceRecognizer::writeFormula);

        e.says("EMPTY_SLOT if it is empty (checked second)");
        e.emptySlots("writeFormula", ReadOnceRecognizer::writeFormula);

        e.says("NOT_READ_ONCE if the function is not read-once");
        notReadOnce("writeFormula", x -> x.writeFormula(2));
        e.refusedAt(Edges.Kind.BUSY, 5, "not normal", -5, x -> x.writeFormula(4));
        e.refusedAt(Edges.Kind.BUSY, 5, "an induced path", -5, x -> x.writeFormula(5));
    }

    private void output() {
        e.promise(22);
        e.says("Returns a character of the output buffer, which is empty at first");
        ReadOnceRecognizer x = new ReadOnceRecognizer();
        due.is("output(0) at first", x.output(0), -1);
        due.is("output(-1) at first", x.output(-1), -1);
        x.setTable(0, 1);
        x.writeFormula(0);
        due.is("output(0) after a refusal", x.output(0), -1);

        e.says("i: the index, from 0");
        x = Edges.holding(5, DEEPEST);
        x.writeFormula(0);
        due.is("the first", x.output(0), 'a');
        due.is("the last of thirteen", x.output(12), ')');
        x.clear(0);
        due.is("the slot's end is not the buffer's", x.output(12), ')');

        e.says("Returns the character code");
        for (int i = 0; i < 13; i++) {
            due.is("output(" + i + ")", x.output(i), DEEPEST.charAt(i));
        }

        e.says("NONE if the index is out of range");
        due.is("one beyond thirteen", x.output(13), -1);
        for (int i : new int[] {Edges.LOW, -1, 13, 16, Edges.HIGH}) {
            e.refused("output(" + i + ")", -1, y -> y.output(i));
        }
        x.setTable(0, 0);
        x.writeFormula(0);
        due.is("one beyond one", x.output(1), -1);
    }
}
