/** Promises 11 to 16: prime implicants, the co-occurrence graph, and the reason. */
final class GraphEdges {
    private static final String PAIRS_OF_FIVE = "a*b+a*c+a*d+a*e+b*c+b*d+b*e+c*d+c*e+d*e";
    /** Not monotone whatever the number of variables: 1 at point 0 alone. */
    private static final int NOT_MONOTONE_SLOT = 2;

    private final Edges e;
    private final Due due;

    GraphEdges(Edges e) {
        this.e = e;
        this.due = e.due;
    }

    void all() {
        primeImplicants();
        primeImplicant();
        neighbors();
        inducedPath();
        inducedPathRefusals();
        badClique();
        reason();
        reasonCodes();
    }

    private void primeImplicants() {
        e.promise(11);
        e.says("Returns the number of prime implicants of a function", "Returns the number");
        for (int n = 1; n <= 5; n++) {
            due.is("of 0", Edges.holding(n, "0").primeImplicants(0), 0);
            due.is("of 1", Edges.holding(n, "1").primeImplicants(0), 1);
            due.is("of a", Edges.holding(n, "a").primeImplicants(0), 1);
        }
        due.is("of all triples of five", Edges.holding(5, "a*b*c+a*b*d+a*b*e+a*c*d+a*c*e+a*d*e+b*c*d+b*c*e+b*d*e+c*d*e")
            .primeImplicants(0), 10);
        due.is("of all pairs of five", Edges.holding(5, PAIRS_OF_FIVE).primeImplicants(0), 10);
        due.is("of the five variables", Edges.holding(5, "a+b+c+d+e").primeImplicants(0), 5);
        due.is("what another contains is none", Edges.holding(3, "a+a*b+a*b*c").primeImplicants(0), 1);

        e.says("slot: the slot, 0 to 7");
        e.everySlot("primeImplicants", 2, ReadOnceRecognizer::primeImplicants);

        e.says("BAD_ARGUMENT if the slot is out of range (checked first)");
        e.badSlots("primeImplicants", ReadOnceRecognizer::primeImplicants);

        e.says("EMPTY_SLOT if it is empty (checked second)");
        e.emptySlots("primeImplicants", ReadOnceRecognizer::primeImplicants);

        e.says("NOT_MONOTONE if the function is not monotone");
        e.refusedBusy("primeImplicants", -4, x -> x.primeImplicants(NOT_MONOTONE_SLOT));
        due.is("0 at the last point alone", heldTable(5, 0x7FFFFFFFL).primeImplicants(0), -4);
    }

    private static ReadOnceRecognizer heldTable(int n, long table) {
        ReadOnceRecognizer x = Edges.fresh(n);
        x.setTable(0, table);
        return x;
    }

    private void primeImplicant() {
        e.promise(12);
        e.says("Returns a prime implicant of a function",
            "The prime implicants are ordered by their integer values, the lowest first", "Returns the set of variables");
        ReadOnceRecognizer x = Edges.holding(5, "d*e+c*e+c*d+b*e+b*d+b*c+a*e+a*d+a*c+a*b");
        int[] pairs = {3, 5, 6, 9, 10, 12, 17, 18, 20, 24};
        for (int i = 0; i < 10; i++) {
            due.is("primeImplicant(0, " + i + ")", x.primeImplicant(0, i), pairs[i]);
        }
        x = Edges.holding(5, "e+a*b*c*d");
        due.is("not by the number of variables", x.primeImplicant(0, 0), 15);
        due.is("the second", x.primeImplicant(0, 1), 16);

        e.says("slot: the slot, 0 to 7");
        e.everySlot("primeImplicant", 3, (y, slot) -> y.primeImplicant(slot, 0));
        e.everySlot("primeImplicant", 4, (y, slot) -> y.primeImplicant(slot, 1));

        e.says("i: the index in this order, from 0");
        due.is("the first of 1", Edges.holding(5, "1").primeImplicant(0, 0), 0);
        due.is("the first of a*b*c*d*e", Edges.holding(5, "a*b*c*d*e").primeImplicant(0, 0), 31);
        due.is("the last of ten", Edges.holding(5, PAIRS_OF_FIVE).primeImplicant(0, 9), 24);

        e.says("BAD_ARGUMENT if the slot is out of range (checked first)");
        e.badSlots("primeImplicant", (y, slot) -> y.primeImplicant(slot, 0));
        e.badSlots("primeImplicant", (y, slot) -> y.primeImplicant(slot, -1));

        e.says("EMPTY_SLOT if it is empty (checked second)");
        e.emptySlots("primeImplicant", (y, slot) -> y.primeImplicant(slot, 0));
        e.emptySlots("primeImplicant", (y, slot) -> y.primeImplicant(slot, -1));

        e.says("NOT_MONOTONE if the function is not monotone (checked third)");
        for (int i : new int[] {Edges.LOW, -1, 0, 1, Edges.HIGH}) {
            e.refusedBusy("index " + i, -4, y -> y.primeImplicant(NOT_MONOTONE_SLOT, i));
        }

        e.says("NONE if there is no prime implicant with this index");
        for (int i : new int[] {Edges.LOW, -1, 1, 32, Edges.HIGH}) {
            e.refusedBusy("index " + i + " of a", -1, y -> y.primeImplicant(0, i));
            e.refusedBusy("index " + i + " of 1", -1, y -> y.primeImplicant(1, i));
        }
        due.is("the first of 0", Edges.holding(3, "0").primeImplicant(0, 0), -1);
        due.is("the eleventh of ten", Edges.holding(5, PAIRS_OF_FIVE).primeImplicant(0, 10), -1);
    }

    private void neighbors() {
        e.promise(13);
        e.says("Returns the set of variables that are adjacent to a variable in the co-occurrence graph");
        ReadOnceRecognizer x = Edges.holding(5, "a*e+b*c*e+d");
        int[] near = {16, 20, 18, 0, 7};
        for (int v = 0; v < 5; v++) {
            due.is("neighbors(0, " + v + ")", x.neighbors(0, v), near[v]);
        }
        x = Edges.holding(5, PAIRS_OF_FIVE);
        for (int v = 0; v < 5; v++) {
            due.is("all the others of " + v, x.neighbors(0, v), 31 - (1 << v));
        }

        e.says("slot: the slot, 0 to 7");
        e.everySlot("neighbors", 2, (y, slot) -> y.neighbors(slot, 0));
        e.badSlots("neighbors", (y, slot) -> y.neighbors(slot, 0));

        e.says("variable: the variable, 0 to n - 1");
        for (int n = 2; n <= 5; n++) {
            String ends = "a*" + (char) ('a' + n - 1);
            due.is("the first", Edges.holding(n, ends).neighbors(0, 0), 1 << (n - 1));
            due.is("the last", Edges.holding(n, ends).neighbors(0, n - 1), 1);
        }
        due.is("the only one", Edges.holding(1, "a").neighbors(0, 0), 0);
        e.outsideByVariables("neighbors(1, ..)", 0, n -> n - 1, (y, variable) -> y.neighbors(1, variable));

        e.says("Returns the set, which is empty if the variable is not essential");
        x = Edges.holding(5, "b*d");
        for (int v : new int[] {0, 2, 4}) {
            due.is("not essential " + v, x.neighbors(0, v), 0);
        }
        due.is("of 0", Edges.holding(5, "0").neighbors(0, 4), 0);
        due.is("of 1", Edges.holding(5, "1").neighbors(0, 0), 0);

        e.says("BAD_ARGUMENT if an argument is out of range (checked first)");
        e.refused("both", -2, y -> y.neighbors(8, 5));
        e.outsideByVariables("an empty slot", 0, n -> n - 1, (y, variable) -> y.neighbors(3, variable));
        e.outsideByVariables("not monotone", 0, n -> n - 1, (y, variable) -> y.neighbors(NOT_MONOTONE_SLOT, variable));

        e.says("EMPTY_SLOT if the slot is empty (checked second)");
        e.emptySlots("neighbors", (y, slot) -> y.neighbors(slot, 0));

        e.says("NOT_MONOTONE if the function is not monotone");
        e.refusedBusy("neighbors", -4, y -> y.neighbors(NOT_MONOTONE_SLOT, 0));
    }

    private void path(int n, String formula, int... want) {
        ReadOnceRecognizer x = Edges.holding(n, formula);
        for (int i = 0; i < 4; i++) {
            due.is("inducedPath(0, " + i + ") of " + formula, x.inducedPath(0, i), want[i]);
        }
    }

    private void inducedPath() {
        e.promise(14);
        e.says("Returns one vertex of the lexicographically smallest induced path of the co-occurrence graph",
            "Returns the variable");
        path(4, "a*b+b*c+c*d", 0, 1, 2, 3);
        path(4, "d*c+c*b+b*a", 0, 1, 2, 3);
        path(4, "b*d+d*a+a*c", 1, 3, 0, 2);
        path(4, "d*b+b*a+a*c", 2, 0, 1, 3);
        path(5, "b*c+c*d+d*e", 1, 2, 3, 4);
        path(5, "e*c+c*d+d*b", 1, 3, 2, 4);
        path(5, "a*b+b*c+c*d+d*e", 0, 1, 2, 3);
        path(5, "a*b+b*c+c*d+d*e+e*a", 0, 1, 2, 3);
        path(5, "a*e+e*b+b*d+d*c", 0, 4, 1, 3);

        e.says("i: the index of the vertex in the path, 0 to 3");
        ReadOnceRecognizer x = Edges.holding(5, "b*c+c*d+d*e");
        due.is("the first", x.inducedPath(0, 0), 1);
        due.is("the last", x.inducedPath(0, 3), 4);
        e.outside("inducedPath(0, ..)", 0, 3, (y, i) -> y.inducedPath(0, i));
        e.outside("inducedPath(5, ..)", 0, 3, (y, i) -> y.inducedPath(5, i));
    }

    private void inducedPathRefusals() {
        e.says("slot: the slot, 0 to 7");
        for (int slot = 0; slot < 8; slot++) {
            ReadOnceRecognizer x = Edges.fresh(4);
            Due.parse(x, "b*d+d*a+a*c", slot);
            due.is("inducedPath(" + slot + ", 0)", x.inducedPath(slot, 0), 1);
            due.is("inducedPath(" + slot + ", 3)", x.inducedPath(slot, 3), 2);
        }
        e.badSlots("inducedPath", (y, slot) -> y.inducedPath(slot, 0));

        e.says("BAD_ARGUMENT if an argument is out of range (checked first)");
        e.refused("both", -2, y -> y.inducedPath(8, 4));
        e.outside("an empty slot", 0, 3, (y, i) -> y.inducedPath(3, i));
        e.outside("not monotone", 0, 3, (y, i) -> y.inducedPath(NOT_MONOTONE_SLOT, i));

        e.says("EMPTY_SLOT if the slot is empty (checked second)");
        e.emptySlots("inducedPath", (y, slot) -> y.inducedPath(slot, 0));
        e.emptySlots("inducedPath", (y, slot) -> y.inducedPath(slot, 3));

        e.says("NOT_MONOTONE if the function is not monotone (checked third)");
        e.refusedBusy("inducedPath", -4, y -> y.inducedPath(NOT_MONOTONE_SLOT, 0));

        e.says("NONE if the graph has no induced path");
        for (int i = 0; i < 4; i++) {
            int vertex = i;
            e.refusedBusy("a variable", -1, y -> y.inducedPath(0, vertex));
            e.refusedBusy("a constant", -1, y -> y.inducedPath(1, vertex));
            e.refusedBusy("the majority or 0", -1, y -> y.inducedPath(4, vertex));
        }
        path(4, "a*b+b*c+c*d+d*a", -1, -1, -1, -1);
        path(4, "a*b+b*c+c*a+c*d", -1, -1, -1, -1);
        path(5, "a*b+a*c+a*d+a*e", -1, -1, -1, -1);
        path(4, "a*b+c*d", -1, -1, -1, -1);
        path(4, "0", -1, -1, -1, -1);
    }

    private void badClique() {
        e.promise(15);
        e.says("Returns the maximal clique with the lowest integer value that is not a prime implicant",
            "Returns the set of variables");
        due.is("a triangle", Edges.holding(3, "a*b+b*c+c*a").badClique(0), 7);
        due.is("the last triangle", Edges.holding(5, "c*d+d*e+e*c").badClique(0), 28);
        due.is("the lower of two", Edges.holding(5, "c*d+d*e+e*c+a*b+b*c+c*a").badClique(0), 7);
        due.is("all five", Edges.holding(5, PAIRS_OF_FIVE).badClique(0), 31);
        due.is("a good one is passed over", Edges.holding(5, "a*b*c+c*d+d*e+e*c").badClique(0), 28);
        due.is("only the maximal one", Edges.holding(4, "a*b*c+a*d+b*d+c*d").badClique(0), 15);
        due.is("with an induced path too", Edges.holding(5, "a*b+b*c+c*d+d*e+e*c").badClique(0), 28);
        ReadOnceRecognizer after = Edges.holding(5, "a*b+a*c+a*d+c*d*e");
        after.badClique(0);
        Due.parse(after, "c*d+d*e+e*c", 0);
        due.is("c*d*e was prime, but of another function", after.badClique(0), 28);

        e.says("slot: the slot, 0 to 7");
        for (int slot = 0; slot < 8; slot++) {
            ReadOnceRecognizer x = new ReadOnceRecognizer();
            x.setTable(slot, 232);
            due.is("badClique(" + slot + ")", x.badClique(slot), 7);
        }

        e.says("BAD_ARGUMENT if the slot is out of range (checked first)");
        e.badSlots("badClique", ReadOnceRecognizer::badClique);

        e.says("EMPTY_SLOT if it is empty (checked second)");
        e.emptySlots("badClique", ReadOnceRecognizer::badClique);

        e.says("NOT_MONOTONE if the function is not monotone (checked third)");
        e.refusedBusy("badClique", -4, x -> x.badClique(NOT_MONOTONE_SLOT));

        e.says("NONE if the function is normal");
        e.refusedBusy("a variable", -1, x -> x.badClique(0));
        e.refusedBusy("the constant 1", -1, x -> x.badClique(1));
        e.refusedBusy("a path, or a variable", -1, x -> x.badClique(5));
        e.refusedBusy("all variables once", -1, x -> x.badClique(7));
        due.is("the constant 0", Edges.holding(5, "0").badClique(0), -1);
        due.is("one clique of five", Edges.holding(5, "a*b*c*d*e").badClique(0), -1);
        due.is("five vertices without an edge", Edges.holding(5, "a+b+c+d+e").badClique(0), -1);
    }

    private void reason() {
        e.promise(16);
        e.says("Returns whether a function is read-once, or the first reason why it is not");
        due.is("a path and a triangle", Edges.holding(5, "a*b+b*c+c*d+d*e+e*c").reason(0), 2);
        due.is("not monotone, with a path at its top", Edges.holding(5, "(a*b+b*c+c*d)*!e").reason(0), 1);
        due.is("neither", Edges.holding(5, "a*b+a*c+a*d+a*e").reason(0), 0);

        e.says("slot: the slot, 0 to 7");
        e.everySlot("reason", 0, ReadOnceRecognizer::reason);

        e.says("BAD_ARGUMENT if the slot is out of range (checked first)");
        e.badSlots("reason", ReadOnceRecognizer::reason);

        e.says("EMPTY_SLOT if it is empty");
        e.emptySlots("reason", ReadOnceRecognizer::reason);
    }

    private void reasonCodes() {
        e.says("Returns 0 if the function is read-once");
        for (int n = 1; n <= 5; n++) {
            due.is("0", Edges.holding(n, "0").reason(0), 0);
            due.is("1", Edges.holding(n, "1").reason(0), 0);
            due.is("a", Edges.holding(n, "a").reason(0), 0);
            due.is("all", Edges.holding(n, Edges.ALL_VARIABLES[n]).reason(0), 0);
        }

        e.says("1 if it is not monotone");
        for (int n = 1; n <= 5; n++) {
            due.is("not a", Edges.holding(n, "!a").reason(0), 1);
            due.is("1 at the first point alone", heldTable(n, 1).reason(0), 1);
            due.is("0 at the last point alone", heldTable(n, Edges.FULL_TABLE[n] >> 1).reason(0), 1);
        }

        e.says("2 if it is monotone and its graph has an induced path");
        due.is("the shortest", Edges.holding(4, "a*b+b*c+c*d").reason(0), 2);
        due.is("a ring of five", Edges.holding(5, "a*b+b*c+c*d+d*e+e*a").reason(0), 2);

        e.says("3 if it is monotone, its graph has no induced path and it is not normal");
        due.is("the smallest", Edges.holding(3, "a*b+b*c+c*a").reason(0), 3);
        due.is("all pairs of five", Edges.holding(5, PAIRS_OF_FIVE).reason(0), 3);
        due.is("a triangle with a vertex at one corner", Edges.holding(4, "a*b+b*c+c*a+c*d").reason(0), 3);
    }
}
