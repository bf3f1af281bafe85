/** Promises 1 to 10 and 48: variables, slots, tables, and what a table alone tells. */
final class TableEdges {
    private final Edges e;
    private final Due due;

    TableEdges(Edges e) {
        this.e = e;
        this.due = e.due;
    }

    void all() {
        newObject();
        setVariables();
        setVariablesRange();
        variables();
        setTable();
        table();
        clear();
        value();
        essential();
        isMonotone();
        violatingPoint();
        usedSlots();
    }

    private void newObject() {
        e.promise(1);
        e.says("Creates a recognizer with 3 variables and empty slots, no samples and no steps");
        ReadOnceRecognizer x = new ReadOnceRecognizer();
        due.is("variables()", x.variables(), 3);
        due.is("usedSlots()", x.usedSlots(), 0);
        due.is("undoable()", x.undoable(), 0);
        due.is("runSteps()", x.runSteps(), 0);
        due.is("clearSteps()", x.clearSteps(), 0);
        for (int i = 0; i < 8; i++) {
            due.is("table(" + i + ")", x.table(i), -3);
            due.is("removeSample(" + i + ")", x.removeSample(i), -1);
        }
        due.is("extensions()", x.extensions(), 19);
        due.is("restore()", x.restore(), -7);
    }

    private void setVariables() {
        e.promise(2);
        e.says("Sets the number of variables");
        for (int n = 1; n <= 5; n++) {
            ReadOnceRecognizer x = Edges.busy(3);
            x.setVariables(n);
            due.is("variables()", x.variables(), n);
            due.is("the last point has a sample", x.addSample((1 << n) - 1, 1), 1);
            due.is("the next is none", x.addSample(1 << n, 1), -2);
        }

        e.says("All slots become empty, all samples and steps are deleted, and the history becomes empty");
        for (int n = 1; n <= 5; n++) {
            emptied(Edges.busy(n), n);
            emptied(Edges.full(n), n);
            emptied(Edges.full(n), 6 - n);
            emptied(Edges.full(n), 5);
            emptied(Edges.fresh(n), n);
        }

        e.says("The input buffer, the output buffer, the arrays and the saved state are not changed");
        for (int n = 1; n <= 5; n++) {
            for (Edges.Kind kind : Edges.Kind.values()) {
                ReadOnceRecognizer x = Edges.make(kind, n);
                ReadOnceRecognizer y = Edges.make(kind, n);
                x.setVariables(6 - n);
                x.restore();
                y.restore();
                // A new object has no saved state to go back to.
                x.setVariables(n);
                y.setVariables(n);
                due.same(kind + " object of " + n, Witness.tale(x), Witness.tale(y));
            }
        }
    }

    private void emptied(ReadOnceRecognizer x, int n) {
        x.setVariables(n);
        due.is("usedSlots()", x.usedSlots(), 0);
        due.is("undoable()", x.undoable(), 0);
        due.is("undo()", x.undo(), -7);
        due.is("runSteps()", x.runSteps(), 0);
        due.is("clearSteps()", x.clearSteps(), 0);
        for (int slot = 0; slot < 8; slot++) {
            due.is("table(" + slot + ")", x.table(slot), -3);
        }
        due.is("extensions()", x.extensions(), new int[] {0, 3, 6, 19, 102, 839}[n]);
        for (int p = 0; p < 1 << n; p++) {
            due.is("removeSample(" + p + ")", x.removeSample(p), -1);
        }
    }

    private void setVariablesRange() {
        e.says("n: the number of variables, 1 to 5");
        ReadOnceRecognizer x = new ReadOnceRecognizer();
        due.is("setVariables(1)", x.setVariables(1), 3);
        due.is("variables()", x.variables(), 1);
        due.is("setVariables(5)", x.setVariables(5), 1);
        due.is("variables()", x.variables(), 5);

        e.says("Returns the previous number of variables");
        for (int before = 1; before <= 5; before++) {
            for (int n = 1; n <= 5; n++) {
                due.is("setVariables(" + n + ")", Edges.fresh(before).setVariables(n), before);
            }
        }

        e.says("BAD_ARGUMENT if n is out of range");
        e.outside("setVariables", 1, 5, ReadOnceRecognizer::setVariables);
    }

    private void variables() {
        e.promise(3);
        e.says("Returns the number of variables", "Returns n");
        due.is("variables() at first", new ReadOnceRecognizer().variables(), 3);
        for (int n = 1; n <= 5; n++) {
            ReadOnceRecognizer x = Edges.fresh(n);
            due.is("variables()", x.variables(), n);
            x.setVariables(0);
            x.setVariables(6);
            due.is("variables() after refusals", x.variables(), n);
        }
    }

    private void setTable() {
        e.promise(4);
        e.says("Stores a function that is given by its truth table");
        ReadOnceRecognizer x = Edges.full(3);
        x.setTable(4, 0x5A);
        due.is("table(4)", x.table(4), 0x5A);
        due.is("value(4, 0)", x.value(4, 0), 0);
        due.is("value(4, 6)", x.value(4, 6), 1);
        due.is("table(3) stays", x.table(3), 56);
        due.is("table(5) stays", x.table(5), 26);

        e.says("slot: the slot, 0 to 7");
        e.everySlot("setTable", 3, (y, slot) -> y.setTable(slot, 7));
        e.badSlots("setTable", (y, slot) -> y.setTable(slot, 1));

        e.says("table: the truth table, 0 to 2^(2^n) - 1");
        for (int n = 1; n <= 5; n++) {
            x = Edges.fresh(n);
            long last = Edges.FULL_TABLE[n];
            due.is("setTable(0, 0)", x.setTable(0, 0), 0);
            due.is("table(0)", x.table(0), 0);
            due.is("setTable(7, " + last + ")", x.setTable(7, last), 1 << n);
            due.is("table(7)", x.table(7), last);
            for (long wrong : new long[] {-1, last + 1, 1L << 32, -last, Long.MIN_VALUE, Long.MAX_VALUE}) {
                e.refusedAt(Edges.Kind.FULL, n, "setTable(0, " + wrong + ")", -2, y -> y.setTable(0, wrong));
                e.refusedAt(Edges.Kind.NEW, n, "setTable(7, " + wrong + ")", -2, y -> y.setTable(7, wrong));
            }
        }

        e.says("Returns the number of points at which the function is 1");
        x = Edges.fresh(5);
        due.is("none", x.setTable(0, 0), 0);
        due.is("the first point", x.setTable(0, 1), 1);
        due.is("the last point", x.setTable(0, 0x80000000L), 1);
        due.is("all but one", x.setTable(0, 0x7FFFFFFFL), 31);
        due.is("all", x.setTable(0, 0xFFFFFFFFL), 32);

        e.says("BAD_ARGUMENT if an argument is out of range");
        e.refused("both", -2, y -> y.setTable(8, -1));
        e.refused("the slot", -2, y -> y.setTable(-1, 0));
        e.refused("the table", -2, y -> y.setTable(0, -1));
    }

    private void table() {
        e.promise(5);
        e.says("Returns the truth table of a slot", "Returns the truth table");
        for (int n = 1; n <= 5; n++) {
            ReadOnceRecognizer x = Edges.fresh(n);
            for (long table : new long[] {0, 1, Edges.TABLE_OF_A[n], Edges.FULL_TABLE[n]}) {
                x.setTable(2, table);
                due.is("table(2)", x.table(2), table);
            }
        }

        e.says("slot: the slot, 0 to 7");
        e.everySlot("table", 248, ReadOnceRecognizer::table);

        e.says("BAD_ARGUMENT if the slot is out of range (checked first)");
        e.badSlots("table", ReadOnceRecognizer::table);

        e.says("EMPTY_SLOT if it is empty");
        e.emptySlots("table", ReadOnceRecognizer::table);
    }

    private void clear() {
        e.promise(6);
        e.says("Empties a slot");
        ReadOnceRecognizer x = Edges.full(3);
        x.clear(4);
        due.is("table(4)", x.table(4), -3);
        due.is("table(3) stays", x.table(3), 56);
        due.is("table(5) stays", x.table(5), 26);

        e.says("slot: the slot, 0 to 7");
        e.everySlot("clear", 0, ReadOnceRecognizer::clear);

        e.says("Returns the number of slots that still hold a function");
        x = Edges.full(2);
        for (int slot = 7; slot >= 0; slot--) {
            due.is("clear(" + slot + ")", x.clear(slot), slot);
        }

        e.says("BAD_ARGUMENT if the slot is out of range (checked first)");
        e.badSlots("clear", ReadOnceRecognizer::clear);

        e.says("EMPTY_SLOT if it is already empty");
        e.emptySlots("clear", ReadOnceRecognizer::clear);
        due.is("clear(0) again", x.clear(0), -3);
        due.is("clear(7) again", x.clear(7), -3);
        due.is("undoable() after eight clears", x.undoable(), 10);
    }

    private void value() {
        e.promise(7);
        e.says("Returns the value of a function at a point", "Returns 0 or 1");
        for (int n = 1; n <= 5; n++) {
            ReadOnceRecognizer x = Edges.fresh(n);
            x.setTable(0, 0);
            x.setTable(1, Edges.FULL_TABLE[n]);
            x.setTable(2, Edges.TABLE_OF_A[n]);
            for (int p = 0; p < 1 << n; p++) {
                due.is("0 at " + p, x.value(0, p), 0);
                due.is("1 at " + p, x.value(1, p), 1);
                due.is("a at " + p, x.value(2, p), p % 2);
            }
        }

        e.says("slot: the slot, 0 to 7");
        e.everySlot("value", 1, (x, slot) -> x.value(slot, 7));
        e.everySlot("value", 0, (x, slot) -> x.value(slot, 0));
        e.badSlots("value", (x, slot) -> x.value(slot, 0));

        e.says("point: the point, 0 to 2^n - 1");
        for (int n = 1; n <= 5; n++) {
            ReadOnceRecognizer x = Edges.fresh(n);
            x.setTable(0, 1);
            x.setTable(1, 1L << ((1 << n) - 1));
            due.is("first at first", x.value(0, 0), 1);
            due.is("first at last", x.value(0, (1 << n) - 1), 0);
            due.is("last at first", x.value(1, 0), 0);
            due.is("last at last", x.value(1, (1 << n) - 1), 1);
        }
        e.outsideByVariables("value(1, ..)", 0, n -> (1 << n) - 1, (x, point) -> x.value(1, point));

        e.says("BAD_ARGUMENT if an argument is out of range (checked first)");
        e.refused("both", -2, x -> x.value(8, 32));
        e.outsideByVariables("an empty slot", 0, n -> (1 << n) - 1, (x, point) -> x.value(3, point));

        e.says("EMPTY_SLOT if the slot is empty");
        e.emptySlots("value", (x, slot) -> x.value(slot, 0));
        e.emptySlots("value", (x, slot) -> x.value(slot, 1));
    }

    private void essential() {
        e.promise(8);
        e.says("Returns the set of essential variables of a function", "Returns the set");
        for (int n = 1; n <= 5; n++) {
            due.is("of 0", Edges.holding(n, "0").essential(0), 0);
            due.is("of 1", Edges.holding(n, "1").essential(0), 0);
            due.is("of all", Edges.holding(n, Edges.ALL_VARIABLES[n]).essential(0), (1 << n) - 1);
            for (int v = 0; v < n; v++) {
                String letter = String.valueOf((char) ('a' + v));
                due.is("of " + letter, Edges.holding(n, letter).essential(0), 1 << v);
                due.is("of not " + letter, Edges.holding(n, "!" + letter).essential(0), 1 << v);
            }
        }

        e.says("slot: the slot, 0 to 7");
        e.everySlot("essential", 7, ReadOnceRecognizer::essential);

        e.says("BAD_ARGUMENT if the slot is out of range (checked first)");
        e.badSlots("essential", ReadOnceRecognizer::essential);

        e.says("EMPTY_SLOT if it is empty");
        e.emptySlots("essential", ReadOnceRecognizer::essential);
    }

    private void isMonotone() {
        e.promise(9);
        e.says("Returns whether a function is monotone", "Returns 1 if it is monotone, otherwise 0");
        for (int n = 1; n <= 5; n++) {
            ReadOnceRecognizer x = Edges.fresh(n);
            int last = (1 << n) - 1;
            x.setTable(0, 0);
            due.is("0", x.isMonotone(0), 1);
            x.setTable(0, Edges.FULL_TABLE[n]);
            due.is("1", x.isMonotone(0), 1);
            x.setTable(0, 1L << last);
            due.is("1 at the last point alone", x.isMonotone(0), 1);
            x.setTable(0, Edges.FULL_TABLE[n] - 1);
            due.is("0 at the first point alone", x.isMonotone(0), 1);
            x.setTable(0, 1);
            due.is("1 at the first point alone", x.isMonotone(0), 0);
            x.setTable(0, Edges.FULL_TABLE[n] >> 1);
            due.is("0 at the last point alone", x.isMonotone(0), 0);
        }

        e.says("slot: the slot, 0 to 7");
        e.everySlot("isMonotone", 1, ReadOnceRecognizer::isMonotone);

        e.says("BAD_ARGUMENT if the slot is out of range (checked first)");
        e.badSlots("isMonotone", ReadOnceRecognizer::isMonotone);

        e.says("EMPTY_SLOT if it is empty");
        e.emptySlots("isMonotone", ReadOnceRecognizer::isMonotone);
    }

    private void violatingPoint() {
        e.promise(10);
        e.says("Returns the lowest point that shows that a function is not monotone: a point p with value 1 for which there"
            + " is a variable that is 0 in p, such that the value is 0 when this variable is changed to 1",
            "Returns the point");
        for (int n = 1; n <= 5; n++) {
            ReadOnceRecognizer x = Edges.fresh(n);
            for (int p = 0; p < (1 << n) - 1; p++) {
                x.setTable(0, 1L << p);
                due.is("1 at " + p + " alone", x.violatingPoint(0), p);
            }
            x.setTable(0, Edges.FULL_TABLE[n] >> 1);
            due.is("0 at the last point alone", x.violatingPoint(0), (1 << (n - 1)) - 1);
        }
        ReadOnceRecognizer two = Edges.fresh(3);
        two.setTable(0, 1 << 3 | 1 << 5 | 1 << 7);
        due.is("monotone", two.violatingPoint(0), -1);
        two.setTable(0, 1 << 3 | 1 << 5);
        due.is("the lower of two", two.violatingPoint(0), 3);

        e.says("slot: the slot, 0 to 7");
        e.everySlot("violatingPoint", -1, ReadOnceRecognizer::violatingPoint);

        e.says("BAD_ARGUMENT if the slot is out of range (checked first)");
        e.badSlots("violatingPoint", ReadOnceRecognizer::violatingPoint);

        e.says("EMPTY_SLOT if it is empty (checked second)");
        e.emptySlots("violatingPoint", ReadOnceRecognizer::violatingPoint);

        e.says("NONE if the function is monotone");
        e.refusedBusy("a variable", -1, x -> x.violatingPoint(0));
        e.refusedBusy("the constant 1", -1, x -> x.violatingPoint(1));
        due.is("the constant 0", Edges.holding(1, "0").violatingPoint(0), -1);
    }

    private void usedSlots() {
        e.promise(48);
        e.says("Returns the number of slots that hold a function", "Returns the number of slots");
        ReadOnceRecognizer x = new ReadOnceRecognizer();
        due.is("none", x.usedSlots(), 0);
        for (int slot = 0; slot < 8; slot++) {
            x.setTable(slot, 0);
            due.is("slots to " + slot, x.usedSlots(), slot + 1);
        }
        x.setTable(7, 1);
        due.is("one again", x.usedSlots(), 8);
        x.clear(0);
        due.is("one less", x.usedSlots(), 7);
        x.clear(0);
        due.is("an empty one cleared", x.usedSlots(), 7);
        x.undo();
        due.is("undone", x.usedSlots(), 8);
    }
}
