/** Promises 32 to 37: samples, extensions, and the numbers of read-once functions. */
final class SampleEdges {
    private static final int[] ALL = {0, 3, 6, 19, 102, 839};
    private static final int[][] BY_SIZE = {
        {}, {2, 1}, {2, 2, 2}, {2, 3, 6, 8}, {2, 4, 12, 32, 52}, {2, 5, 20, 80, 260, 472}
    };

    private final Edges e;
    private final Due due;

    SampleEdges(Edges e) {
        this.e = e;
        this.due = e.due;
    }

    void all() {
        addSample();
        removeSample();
        extensions();
        extension();
        simplestExtension();
        readOnceCount();
    }

    private void addSample() {
        e.promise(32);
        e.says("Adds or replaces a sample: a point together with a required value");
        for (int n = 1; n <= 5; n++) {
            int last = (1 << n) - 1;
            ReadOnceRecognizer x = Edges.fresh(n);
            due.is("added", x.addSample(last, 0), 1);
            due.is("only 0", x.extensions(), 1);
            due.is("it is 0", x.extension(0), 0);
            due.is("replaced", x.addSample(last, 1), 1);
            due.is("all but 0", x.extensions(), ALL[n] - 1);
            due.is("replaced by the same", x.addSample(last, 1), 1);
            due.is("replaced back", x.addSample(last, 0), 1);
            due.is("only 0 again", x.extensions(), 1);
            due.is("a sample is no change of a slot", x.undoable(), 0);
        }

        e.says("There are no samples at first");
        ReadOnceRecognizer first = new ReadOnceRecognizer();
        for (int p = 0; p < 8; p++) {
            due.is("removeSample(" + p + ")", first.removeSample(p), -1);
        }
        due.is("the first sample", first.addSample(0, 0), 1);

        e.says("point: the point, 0 to 2^n - 1");
        for (int n = 1; n <= 5; n++) {
            ReadOnceRecognizer x = Edges.fresh(n);
            due.is("the first", x.addSample(0, 1), 1);
            due.is("only 1", x.extension(0), Edges.FULL_TABLE[n]);
            due.is("the last", x.addSample((1 << n) - 1, 0), 2);
            due.is("none", x.extensions(), 0);
        }
        e.outsideByVariables("point", 0, n -> (1 << n) - 1, (x, point) -> x.addSample(point, 1));

        e.says("bit: the required value, 0 or 1");
        due.is("0", Edges.fresh(3).addSample(3, 0), 1);
        due.is("1", Edges.fresh(3).addSample(3, 1), 1);
        e.outside("bit", 0, 1, (x, bit) -> x.addSample(0, bit));

        e.says("Returns the number of points that have a sample");
        for (int n = 1; n <= 5; n++) {
            ReadOnceRecognizer x = Edges.fresh(n);
            for (int p = 0; p < 1 << n; p++) {
                due.is("addSample(" + p + ", 1)", x.addSample(p, 1), p + 1);
            }
            due.is("one more would be one that is there", x.addSample(0, 0), 1 << n);
        }

        e.says("BAD_ARGUMENT if an argument is out of range");
        e.refused("both", -2, x -> x.addSample(32, 2));
        e.refused("the point", -2, x -> x.addSample(-1, 0));
        e.refused("the bit", -2, x -> x.addSample(1, -1));
    }

    private void removeSample() {
        e.promise(33);
        e.says("Deletes the sample of a point");
        ReadOnceRecognizer one = Edges.fresh(3);
        one.addSample(7, 0);
        one.addSample(0, 1);
        due.is("the other stays", one.removeSample(7), 1);
        due.is("only 1", one.extensions(), 1);
        due.is("the last sample", one.removeSample(0), 0);
        due.is("all", one.extensions(), 19);

        e.says("point: the point, 0 to 2^n - 1");
        for (int n = 1; n <= 5; n++) {
            ReadOnceRecognizer x = Edges.full(n);
            due.is("the last", x.removeSample((1 << n) - 1), (1 << n) - 1);
            due.is("the first", x.removeSample(0), (1 << n) - 2);
        }

        e.says("Returns the number of points that still have a sample");
        for (int n = 1; n <= 5; n++) {
            ReadOnceRecognizer x = Edges.full(n);
            for (int p = (1 << n) - 1; p >= 0; p--) {
                due.is("removeSample(" + p + ")", x.removeSample(p), p);
            }
        }

        e.says("BAD_ARGUMENT if the point is out of range (checked first)");
        e.outsideByVariables("point", 0, n -> (1 << n) - 1, ReadOnceRecognizer::removeSample);

        e.says("NONE if the point has no sample");
        for (int n = 1; n <= 5; n++) {
            for (int p : new int[] {0, (1 << n) - 1}) {
                e.refusedAt(Edges.Kind.NEW, n, "removeSample(" + p + ")", -1, x -> x.removeSample(p));
            }
            if (n > 1) {
                e.refusedAt(Edges.Kind.BUSY, n, "removeSample(2)", -1, x -> x.removeSample(2));
            }
        }
        due.is("it was removed", one.removeSample(0), -1);
    }

    private void extensions() {
        e.promise(34);
        e.says("Returns the number of extensions");
        for (int n = 1; n <= 5; n++) {
            due.is("all of " + n, Edges.fresh(n).extensions(), ALL[n]);
            due.is("one", Edges.full(n).extensions(), 1);
            ReadOnceRecognizer x = Edges.fresh(n);
            x.addSample(0, 1);
            x.addSample((1 << n) - 1, 0);
            due.is("none", x.extensions(), 0);
        }

        e.says("An extension is a read-once function of the n variables, constant functions included, that has the required"
            + " value at the point of every sample");
        ReadOnceRecognizer x = Edges.fresh(1);
        due.is("0, a and 1", x.extensions(), 3);
        x.addSample(0, 0);
        due.is("0 and a", x.extensions(), 2);
        x.addSample(1, 1);
        due.is("a", x.extensions(), 1);
        x.addSample(0, 1);
        due.is("1", x.extension(0), 3);
        x = Edges.fresh(3);
        for (int p = 0; p < 8; p++) {
            x.addSample(p, 232 >> p & 1);
        }
        due.is("the majority is none", x.extensions(), 0);
        x.removeSample(6);
        due.is("a*(b+c) is one", x.extensions(), 1);
        due.is("its table", x.extension(0), 168);
        x = Edges.fresh(5);
        for (int p = 0; p < 32; p++) {
            x.addSample(p, p == 31 ? 1 : 0);
        }
        due.is("samples everywhere", x.extensions(), 1);
        due.is("a*b*c*d*e", x.extension(0), 0x80000000L);
    }

    private void extension() {
        e.promise(35);
        e.says("Returns the truth table of an extension", "Returns the truth table");
        long[] ofTwo = {0, 8, 10, 12, 14, 15};
        ReadOnceRecognizer x = Edges.fresh(2);
        for (int i = 0; i < 6; i++) {
            due.is("extension(" + i + ")", x.extension(i), ofTwo[i]);
        }
        due.is("a table of 32 points", Edges.fresh(5).extension(838), 0xFFFFFFFFL);

        e.says("The extensions are ordered by their truth tables, the lowest first");
        for (int n = 1; n <= 5; n++) {
            ReadOnceRecognizer y = Edges.fresh(n);
            long before = -1;
            for (int i = 0; i < Math.min(500, ALL[n]); i++) {
                long table = y.extension(i);
                due.holds("extension(" + i + ") is above the one before", table > before);
                before = table;
            }
        }

        e.says("i: the index in this order, from 0");
        for (int n = 1; n <= 5; n++) {
            due.is("the first", Edges.fresh(n).extension(0), 0);
            due.is("the last", Edges.fresh(n).extension(ALL[n] - 1), Edges.FULL_TABLE[n]);
            due.is("the only one", Edges.full(n).extension(0), Edges.TABLE_OF_A[n]);
        }

        e.says("NONE if there is no extension with this index");
        for (int n = 1; n <= 5; n++) {
            int all = ALL[n];
            for (int i : new int[] {Edges.LOW, -1, all, Edges.HIGH}) {
                e.refusedAt(Edges.Kind.NEW, n, "extension(" + i + ")", -1, y -> y.extension(i));
            }
            for (int i : new int[] {Edges.LOW, -1, 1, Edges.HIGH}) {
                e.refusedAt(Edges.Kind.FULL, n, "extension(" + i + ")", -1, y -> y.extension(i));
            }
        }
        x.addSample(0, 1);
        x.addSample(3, 0);
        due.is("the first of none", x.extension(0), -1);
    }

    private void simplestExtension() {
        e.promise(36);
        e.says("Returns the truth table of the extension with the fewest essential variables", "Returns the truth table");
        for (int n = 1; n <= 5; n++) {
            ReadOnceRecognizer x = Edges.fresh(n);
            x.addSample((1 << n) - 1, 1);
            due.is("a constant", x.simplestExtension(), Edges.FULL_TABLE[n]);
            due.is("the only one", Edges.full(n).simplestExtension(), Edges.TABLE_OF_A[n]);
        }
        ReadOnceRecognizer x = Edges.fresh(5);
        for (int v = 0; v < 5; v++) {
            x.addSample(31 - (1 << v), 0);
        }
        x.addSample(31, 1);
        due.is("all five", x.simplestExtension(), 0x80000000L);
        x = Edges.fresh(3);
        x.addSample(1, 0);
        x.addSample(6, 1);
        x.addSample(7, 1);
        due.is("b before the lower a*b+c", x.simplestExtension(), 204);

        e.says("among those, the lowest truth table");
        for (int n = 1; n <= 5; n++) {
            due.is("0 before 1", Edges.fresh(n).simplestExtension(), 0);
        }
        x = Edges.fresh(5);
        x.addSample(0, 0);
        x.addSample(31, 1);
        due.is("a before b to e", x.simplestExtension(), 2863311530L);
        x.addSample(1, 0);
        due.is("b before c to e", x.simplestExtension(), 3435973836L);
        x.addSample(15, 0);
        due.is("e", x.simplestExtension(), 4294901760L);

        e.says("NONE if there is no extension");
        for (int n = 1; n <= 5; n++) {
            x = Edges.fresh(n);
            x.addSample(0, 1);
            x.addSample((1 << n) - 1, 0);
            due.is("none", x.simplestExtension(), -1);
        }
    }

    private void readOnceCount() {
        e.promise(37);
        e.says("Returns the number of read-once functions of the n variables that have exactly k essential variables",
            "Returns the number of functions");
        for (int n = 1; n <= 5; n++) {
            ReadOnceRecognizer x = Edges.full(n);
            int sum = 0;
            for (int k = 0; k <= n; k++) {
                due.is("readOnceCount(" + k + ") of " + n, x.readOnceCount(k), BY_SIZE[n][k]);
                sum += x.readOnceCount(k);
            }
            due.is("all together", sum, ALL[n]);
        }

        e.says("k: the number of essential variables, 0 to n");
        for (int n = 1; n <= 5; n++) {
            due.is("0", Edges.fresh(n).readOnceCount(0), 2);
            due.is("n", Edges.fresh(n).readOnceCount(n), BY_SIZE[n][n]);
        }

        e.says("BAD_ARGUMENT if k is out of range");
        e.outsideByVariables("readOnceCount", 0, n -> n, ReadOnceRecognizer::readOnceCount);
    }
}
