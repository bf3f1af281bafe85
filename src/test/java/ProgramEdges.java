/** Promises 38 to 43 and 49: the program of steps, the history, and the saved state. */
final class ProgramEdges {
    private final Edges e;
    private final Due due;

    ProgramEdges(Edges e) {
        this.e = e;
        this.due = e.due;
    }

    void all() {
        addStep();
        operations();
        addStepRange();
        clearSteps();
        runSteps();
        skippedSteps();
        undo();
        save();
        restore();
        undoable();
    }

    /** Slots 0 to 2 hold a, b and a*b+c. */
    private static ReadOnceRecognizer three() {
        ReadOnceRecognizer x = new ReadOnceRecognizer();
        x.setTable(0, 170);
        x.setTable(1, 204);
        x.setTable(2, 248);
        return x;
    }

    private void addStep() {
        e.promise(38);
        e.says("Appends a step to the program");
        ReadOnceRecognizer x = three();
        x.addStep(0, 0, 1, 3);
        x.addStep(3, 3, 0, 4);
        x.addStep(2, 3, 4, 5);
        due.is("nothing runs yet", x.usedSlots(), 3);
        due.is("all three run", x.runSteps(), 3);
        due.is("the first before the second", x.table(4), 238);
        due.is("the second before the third", x.table(5), 102);

        e.says("A program has at most 8 steps and none at first");
        x = three();
        due.is("none at first", x.clearSteps(), 0);
        for (int i = 1; i <= 8; i++) {
            due.is("step " + i, x.addStep(0, 0, 1, i - 1), i);
        }
        due.is("a ninth", x.addStep(0, 0, 1, 0), -6);
        due.is("eight of them run", x.runSteps(), 8);
    }

    private void stores(int operation, int first, int second, long want) {
        ReadOnceRecognizer x = three();
        x.addStep(operation, first, second, 7);
        due.is("runSteps() of operation " + operation, x.runSteps(), 1);
        due.is("table(7) of operation " + operation, x.table(7), want);
    }

    private void operations() {
        e.says("The operations are: 0 and, 1 or, 2 exclusive or of the slots first and second");
        stores(0, 0, 1, 136);
        stores(1, 0, 1, 238);
        stores(2, 0, 1, 102);
        stores(2, 2, 2, 0);

        e.says("3 the dual of slot first");
        stores(3, 2, 0, 224);

        e.says("4 the cofactor of slot first for variable second and value 0");
        stores(4, 2, 0, 240);
        stores(4, 2, 2, 136);

        e.says("5 the same for value 1");
        stores(5, 2, 0, 252);
        stores(5, 2, 2, 255);

        e.says("The result is stored in the target slot");
        for (int target = 0; target < 8; target++) {
            ReadOnceRecognizer x = three();
            x.addStep(0, 0, 1, target);
            x.runSteps();
            due.is("table(" + target + ")", x.table(target), 136);
            due.is("one change", x.undoable(), 4);
            due.is("of that slot", x.undo(), target);
        }

        e.says("For operation 3 the argument second is ignored");
        for (int second : new int[] {Edges.LOW, -1, 3, 7, 8, Edges.HIGH}) {
            stores(3, 2, second, 224);
        }
    }

    private void addStepRange() {
        int[] any = {Edges.LOW, -1, 0, 7, 8, Edges.HIGH};
        e.says("The arguments are not checked except for the operation");
        for (int operation = 0; operation <= 5; operation++) {
            for (int wild : any) {
                due.is("addStep(" + operation + ")", three().addStep(operation, wild, wild, wild), 1);
            }
        }

        e.says("operation: the operation, 0 to 5");
        due.is("0", three().addStep(0, 0, 0, 0), 1);
        due.is("5", three().addStep(5, 0, 0, 0), 1);

        e.says("first: the first argument");
        wildStep(any, true, (x, i) -> x.addStep(3, i, 0, 5));

        e.says("second: the second argument");
        wildStep(any, true, (x, i) -> x.addStep(1, 0, i, 5));

        e.says("target: the target slot");
        wildStep(any, false, (x, i) -> x.addStep(1, 0, 1, i));

        e.says("Returns the number of steps");
        ReadOnceRecognizer x = three();
        for (int i = 1; i <= 8; i++) {
            due.is("step " + i, x.addStep(i % 6, 9, 9, 9), i);
        }
        x.clearSteps();
        due.is("after all were deleted", x.addStep(0, 0, 0, 0), 1);

        e.says("BAD_ARGUMENT if the operation is out of range (checked first)");
        e.outside("addStep", 0, 5, (y, operation) -> y.addStep(operation, 0, 0, 0));

        e.says("FULL if there are already 8 steps");
        for (int n = 1; n <= 5; n++) {
            e.refusedAt(Edges.Kind.FULL, n, "addStep(0, ..)", -6, y -> y.addStep(0, 0, 0, 0));
            e.refusedAt(Edges.Kind.FULL, n, "addStep(5, ..)", -6, y -> y.addStep(5, 9, 9, 9));
        }
    }

    /** A step is added whatever the argument; it runs if the argument is a slot, and, if it must, one that is in use. */
    private void wildStep(int[] arguments, boolean operand, Edges.IntCall add) {
        for (int i : arguments) {
            ReadOnceRecognizer x = three();
            due.is("added with " + i, add.on(x, i), 1);
            boolean runs = i == 0 || i == 7 && !operand;
            due.is("run with " + i, x.runSteps(), runs ? 1 : 0);
            due.is("undoable() with " + i, x.undoable(), runs ? 4 : 3);
        }
    }

    private void clearSteps() {
        e.promise(39);
        e.says("Deletes all steps of the program");
        for (int n = 1; n <= 5; n++) {
            ReadOnceRecognizer x = Edges.full(n);
            x.clearSteps();
            due.is("none to run", x.runSteps(), 0);
            due.is("room again", x.addStep(0, 0, 0, 0), 1);
        }

        e.says("Returns the number of steps that were deleted");
        due.is("none", Edges.fresh(3).clearSteps(), 0);
        due.is("three", Edges.busy(3).clearSteps(), 3);
        ReadOnceRecognizer x = Edges.full(3);
        due.is("eight", x.clearSteps(), 8);
        due.is("none left", x.clearSteps(), 0);
    }

    private void runSteps() {
        e.promise(40);
        e.says("Executes the steps of the program in order");
        ReadOnceRecognizer x = three();
        x.addStep(0, 3, 3, 4);
        x.addStep(3, 0, 0, 3);
        due.is("the first comes too early", x.runSteps(), 1);
        due.is("table(4)", x.table(4), -3);
        due.is("and runs the next time", x.runSteps(), 2);
        due.is("table(4)", x.table(4), 170);

        e.says("Each step acts like the method combine, dual or cofactor with its arguments, also with regard to the history");
        for (int n = 1; n <= 5; n++) {
            ReadOnceRecognizer stepped = withProgram(n);
            ReadOnceRecognizer called = withProgram(n);
            due.is("runSteps()", stepped.runSteps(), 8);
            called.combine(0, 0, 7, 1);
            called.combine(1, 1, 2, 3);
            called.combine(2, 3, 4, 3);
            called.dual(3, 3);
            called.cofactor(3, 0, 0, 6);
            called.cofactor(3, n - 1, 1, 5);
            called.combine(2, 5, 5, 5);
            called.combine(0, 5, 6, 0);
            due.same("steps and calls", Witness.tale(stepped), Witness.tale(called));
        }
        x = Edges.full(3);
        due.is("ten records, then eight more", x.runSteps(), 8);
        due.is("undoable()", x.undoable(), 10);

        e.says("The program is not changed");
        x = withProgram(4);
        due.is("once", x.runSteps(), 8);
        due.is("twice", x.runSteps(), 8);
        due.is("clearSteps()", x.clearSteps(), 8);

        e.says("Returns the number of steps that were not skipped");
        due.is("no steps", three().runSteps(), 0);
        for (int good = 0; good <= 8; good++) {
            x = three();
            for (int i = 0; i < 8; i++) {
                x.addStep(0, 0, i < good ? 1 : 8, 7);
            }
            due.is(good + " of eight", x.runSteps(), good);
        }
    }

    private static ReadOnceRecognizer withProgram(int n) {
        ReadOnceRecognizer x = Edges.busy(n);
        x.clearSteps();
        x.addStep(0, 0, 7, 1);
        x.addStep(1, 1, 2, 3);
        x.addStep(2, 3, 4, 3);
        x.addStep(3, 3, 99, 3);
        x.addStep(4, 3, 0, 6);
        x.addStep(5, 3, n - 1, 5);
        x.addStep(2, 5, 5, 5);
        x.addStep(0, 5, 6, 0);
        return x;
    }

    private void skippedSteps() {
        e.says("A step for which that method would return an error code is skipped");
        for (int n = 1; n <= 5; n++) {
            int[][] wrong = {
                {0, 8, 0, 0}, {1, 0, -1, 0}, {2, 0, 0, 8}, {0, 3, 0, 0}, {1, 0, 6, 0}, {3, 8, 0, 0}, {3, 0, 0, -1}, {3, 3, 0, 0},
                {4, -1, 0, 0}, {4, 0, n, 0}, {4, 0, -1, 0}, {5, 0, 0, 8}, {5, 6, 0, 0}, {5, 0, n, 0}, {4, 0, 32, 0},
                {5, Edges.HIGH, Edges.LOW, Edges.HIGH}
            };
            for (int from = 0; from < 16; from += 8) {
                ReadOnceRecognizer x = withWrong(n, wrong, from);
                due.is("all are skipped", x.runSteps(), 0);
                due.same("nothing is changed", Witness.tale(x), Witness.tale(withWrong(n, wrong, from)));
            }
        }
        ReadOnceRecognizer x = three();
        x.addStep(0, 0, 8, 7);
        x.addStep(2, 0, 0, 6);
        x.addStep(0, 0, 5, 7);
        x.addStep(1, 0, 1, 5);
        due.is("those between are not", x.runSteps(), 2);
        due.is("a result that is 1 nowhere is no error", x.table(6), 0);
        due.is("table(5)", x.table(5), 238);
        due.is("table(7)", x.table(7), -3);
    }

    private static ReadOnceRecognizer withWrong(int n, int[][] steps, int from) {
        ReadOnceRecognizer x = Edges.busy(n);
        x.clearSteps();
        for (int i = from; i < from + 8; i++) {
            x.addStep(steps[i][0], steps[i][1], steps[i][2], steps[i][3]);
        }
        return x;
    }

    private void undo() {
        e.promise(41);
        e.says("Undoes the most recent change of a slot that is in the history and deletes its record");
        ReadOnceRecognizer x = three();
        x.setTable(1, 9);
        x.clear(0);
        due.is("undo()", x.undo(), 0);
        due.is("table(0)", x.table(0), 170);
        due.is("undoable()", x.undoable(), 4);
        due.is("undo()", x.undo(), 1);
        due.is("table(1)", x.table(1), 204);
        due.is("undoable()", x.undoable(), 3);
        x.setTable(7, 5);
        due.is("a new change is the most recent one", x.undo(), 7);
        due.is("undoable()", x.undoable(), 3);

        e.says("Returns the slot, whose previous content is restored");
        for (int slot = 0; slot < 8; slot++) {
            x = new ReadOnceRecognizer();
            x.setTable(slot, 3);
            x.setTable(slot, 0);
            due.is("undo()", x.undo(), slot);
            due.is("a function before", x.table(slot), 3);
            due.is("undo()", x.undo(), slot);
            due.is("empty before", x.table(slot), -3);
        }

        e.says("NOTHING_SAVED if the history is empty");
        for (int n = 1; n <= 5; n++) {
            e.refusedAt(Edges.Kind.NEW, n, "undo()", -7, ReadOnceRecognizer::undo);
            x = Edges.full(n);
            for (int i = 0; i < 10; i++) {
                due.holds("undo " + i, x.undo() >= 0);
            }
            due.is("an eleventh undo", x.undo(), -7);
            due.is("the slots that stay", x.usedSlots(), 3);
            due.is("undoable()", x.undoable(), 0);
        }
    }

    private static String taleBeforeRestore(ReadOnceRecognizer x) {
        String tale = Witness.tale(x);
        return tale.substring(0, tale.indexOf("restore "));
    }

    private void save() {
        e.promise(42);
        e.says("Saves the number of variables, the slots, the samples and the steps, in place of a state that was saved before");
        for (int n = 1; n <= 5; n++) {
            for (Edges.Kind kind : Edges.Kind.values()) {
                ReadOnceRecognizer x = Edges.make(kind, n);
                x.save();
                due.same("all is as before", taleBeforeRestore(x), taleBeforeRestore(Edges.make(kind, n)));
                x = Edges.make(kind, n);
                x.save();
                spoil(x, n);
                x.restore();
                ReadOnceRecognizer y = Edges.make(kind, n);
                y.save();
                due.same("all of it", Witness.taleWithoutHistory(x), Witness.taleWithoutHistory(y));
            }
        }

        e.says("Returns the number of slots that hold a function");
        due.is("none", Edges.fresh(3).save(), 0);
        due.is("six", Edges.busy(3).save(), 6);
        due.is("all", Edges.full(3).save(), 8);
    }

    /** Changes all that restore brings back, and nothing else. */
    private static void spoil(ReadOnceRecognizer x, int n) {
        x.setVariables(6 - n);
        x.random(5, 3, 3);
        x.random(6, 3, 6);
        x.addSample(0, 1);
        for (int i = 0; i < 8; i++) {
            x.addStep(2, 3, 6, i % 3);
        }
        x.runSteps();
    }

    private void restore() {
        e.promise(43);
        e.says("Restores the saved state, which stays saved");
        for (int n = 1; n <= 5; n++) {
            ReadOnceRecognizer x = Edges.full(n);
            x.save();
            for (int i = 0; i < 3; i++) {
                spoil(x, n);
                due.is("restore()", x.restore(), 8);
                due.is("variables()", x.variables(), n);
                due.is("all samples", x.addSample(0, 0), 1 << n);
                due.is("all steps", x.addStep(0, 0, 0, 0), -6);
                due.is("table(2)", x.table(2), 51 & Edges.FULL_TABLE[n]);
            }
        }

        e.says("The history becomes empty");
        for (int n = 1; n <= 5; n++) {
            ReadOnceRecognizer x = Edges.full(n);
            x.restore();
            due.is("undoable()", x.undoable(), 0);
            due.is("undo()", x.undo(), -7);
        }

        e.says("The input buffer, the output buffer and the arrays are not changed");
        ReadOnceRecognizer x = Edges.full(5);
        x.save();
        x.parse(0);
        Due.feedAll(x, "a*");
        x.createArray(1, 2);
        x.setElement(1, 1, 77);
        x.setTable(0, 0);
        x.writeFormula(0);
        due.is("restore()", x.restore(), 8);
        due.same("the output buffer", Due.written(x), "0");
        due.is("element(1, 1)", x.element(1, 1), 77);
        due.is("element(1, 2)", x.element(1, 2), Long.MIN_VALUE);
        due.is("element(3, 3)", x.element(3, 3), -6);
        due.is("the input buffer", x.feed('b'), 3);
        due.is("parse(0)", x.parse(0), 2);

        e.says("Returns the number of slots that hold a function");
        x = new ReadOnceRecognizer();
        x.save();
        x.setTable(0, 0);
        due.is("none", x.restore(), 0);
        x = Edges.full(3);
        x.save();
        x.clear(0);
        due.is("all", x.restore(), 8);

        e.says("NOTHING_SAVED if no state was saved");
        for (int n = 1; n <= 5; n++) {
            e.refusedAt(Edges.Kind.NEW, n, "restore()", -7, ReadOnceRecognizer::restore);
        }
        x = three();
        due.is("restore()", x.restore(), -7);
        due.is("undoable()", x.undoable(), 3);
        due.is("usedSlots()", x.usedSlots(), 3);
    }

    private void undoable() {
        e.promise(49);
        e.says("Returns the number of changes that can be undone");
        ReadOnceRecognizer x = new ReadOnceRecognizer();
        for (int i = 0; i < 25; i++) {
            int can = x.undoable();
            int done = 0;
            while (done < 12 && x.undo() >= 0) {
                done++;
            }
            due.is("undone after " + i, done, can);
            for (int k = 0; k < i; k++) {
                x.setTable(k % 8, k);
            }
        }

        e.says("Returns the number of records in the history, 0 to 10");
        x = new ReadOnceRecognizer();
        due.is("at first", x.undoable(), 0);
        for (int i = 1; i <= 12; i++) {
            x.setTable(3, i);
            due.is("after " + i, x.undoable(), Math.min(i, 10));
        }
        for (int i = 9; i >= 0; i--) {
            x.undo();
            due.is("after undo", x.undoable(), i);
        }
        x.undo();
        due.is("after one undo too many", x.undoable(), 0);
    }
}
