import java.io.IOException;
import java.util.HashMap;
import java.util.HashSet;
import java.util.List;
import java.util.Map;
import java.util.Set;

/**
 * What the tests of edges share: the clause that a test is about, objects in three kinds of states, and calls that
 * must be refused. It keeps count of the document's clauses, so that none stays without a test.
 */
final class Edges {
    static final int LOW = Integer.MIN_VALUE;
    static final int HIGH = Integer.MAX_VALUE;
    static final int BAD = ReadOnceRecognizer.BAD_ARGUMENT;
    static final int EMPTY = ReadOnceRecognizer.EMPTY_SLOT;
    static final int NONE = ReadOnceRecognizer.NONE;
    static final long[] FULL_TABLE = {0, 3, 15, 255, 65535, 4294967295L};
    static final long[] TABLE_OF_A = {0, 2, 10, 170, 43690, 2863311530L};
    static final String[] ALL_VARIABLES = {"", "a", "a*b", "a*b+c", "(a+b)*(c+d)", "(a+b)*c+d*e"};
    /** The slots of a busy object that are empty. */
    static final int[] GAPS = {3, 6};

    interface Call {
        long on(ReadOnceRecognizer x);
    }

    interface IntCall {
        long on(ReadOnceRecognizer x, int i);
    }

    interface Bound {
        int of(int n);
    }

    enum Kind { NEW, BUSY, FULL }

    final Due due;
    private final Document document = new Document();
    private final Set<String> named = new HashSet<>();
    private final Map<String, String> tales = new HashMap<>();
    private int promise = 0;
    private int askedBefore = -1;

    Edges(Due due) throws IOException {
        this.due = due;
    }

    // ---- clauses

    void promise(int number) {
        promise = number;
    }

    /** Names the clauses that the calls after it are about. */
    void says(String... clauses) {
        endClause();
        List<String> all = document.clauses(promise);
        for (String clause : clauses) {
            due.section("promise " + promise);
            due.holds("the document says: " + clause, all.contains(clause));
            named.add(promise + " " + clause);
        }
        due.section("promise " + promise + ", " + String.join("; ", clauses));
        askedBefore = due.asked();
    }

    private void endClause() {
        due.holds("a clause that is named is tested", due.asked() > askedBefore);
    }

    /** Fails for each clause that no test has named. */
    void end(String... untestable) {
        endClause();
        for (String clause : untestable) {
            named.add("0 " + clause);
        }
        for (int number = 0; number <= Document.PROMISES; number++) {
            due.section("promise " + number);
            for (String clause : document.clauses(number)) {
                due.holds("a test for: " + clause, named.contains(number + " " + clause));
            }
        }
    }

    // ---- objects

    static ReadOnceRecognizer fresh(int n) {
        ReadOnceRecognizer x = new ReadOnceRecognizer();
        x.setVariables(n);
        return x;
    }

    static ReadOnceRecognizer holding(int n, String formula) {
        ReadOnceRecognizer x = fresh(n);
        if (Due.parse(x, formula, 0) < 0) {
            throw new IllegalArgumentException(formula);
        }
        return x;
    }

    static ReadOnceRecognizer make(Kind kind, int n) {
        return switch (kind) {
            case NEW -> fresh(n);
            case BUSY -> busy(n);
            case FULL -> full(n);
        };
    }

    /** Something of everything, nothing full; the saved state is another one, of another number of variables. */
    static ReadOnceRecognizer busy(int n) {
        ReadOnceRecognizer x = busyWithoutInput(n);
        Due.feedAll(x, "a+");
        return x;
    }

    static ReadOnceRecognizer busyWithoutInput(int n) {
        ReadOnceRecognizer x = fresh(n % 5 + 1);
        x.setTable(6, 2);
        x.addSample(1, 1);
        x.addStep(3, 6, 0, 5);
        x.save();
        x.setVariables(n);
        x.createArray(0, 3);
        x.setElement(0, 0, 1);
        x.setElement(0, 1, -1);
        x.createArray(2, 0);
        x.createArray(3, 16);
        x.setElement(3, 15, 7);
        Due.parse(x, "a", 0);
        x.setTable(1, FULL_TABLE[n]);
        x.setTable(2, 1);
        x.setTable(3, 1);
        Due.parse(x, n >= 3 ? "a*b+b*c+c*a" : "0", 4);
        Due.parse(x, n >= 4 ? "a*b+b*c+c*d" : "a", 5);
        Due.parse(x, ALL_VARIABLES[n], 7);
        x.clear(3);
        x.addStep(0, 0, 7, 3);
        x.addStep(4, 7, 0, 6);
        x.addStep(1, 8, 0, 0);
        x.addSample(0, 0);
        x.addSample((1 << n) - 1, 1);
        x.addSample(1, 1);
        x.writeFormula(7);
        return x;
    }

    /** Every slot, point, step, record, byte and array in use, and a state saved. */
    static ReadOnceRecognizer full(int n) {
        ReadOnceRecognizer x = fresh(n);
        x.save();
        for (int i = 0; i < 12; i++) {
            x.setTable(i % 8, 5 * i + 1 & FULL_TABLE[n]);
        }
        Due.parse(x, ALL_VARIABLES[n], 7);
        x.writeFormula(7);
        for (int p = 0; p < 1 << n; p++) {
            x.addSample(p, p & 1);
        }
        for (int i = 0; i < 8; i++) {
            x.addStep(i % 6, i, (i + 1) % n, 7 - i);
        }
        for (int array = 0; array < 4; array++) {
            x.createArray(array, 16);
            x.setElement(array, array, array - 9);
        }
        for (int i = 0; i < 80; i++) {
            x.feed(i % 2 == 0 ? 'a' : '+');
        }
        return x;
    }

    private String taleOf(Kind kind, int n) {
        return tales.computeIfAbsent(kind + " " + n, key -> Witness.tale(make(kind, n)));
    }

    // ---- calls that are refused

    /** The call has this answer on a busy object of n variables, and leaves it as it was. */
    void refusedAt(Kind kind, int n, String what, long want, Call call) {
        ReadOnceRecognizer x = make(kind, n);
        String where = what + ", " + kind + " object of " + n + " variables";
        due.is(where, call.on(x), want);
        due.same(where + ", its state", Witness.tale(x), taleOf(kind, n));
    }

    void refusedBusy(String what, long want, Call call) {
        for (int n = 1; n <= 5; n++) {
            refusedAt(Kind.BUSY, n, what, want, call);
        }
    }

    /** The call has this answer on objects in every kind of state, and leaves them as they were. */
    void refused(String what, long want, Call call) {
        for (Kind kind : Kind.values()) {
            for (int n = 1; n <= 5; n++) {
                refusedAt(kind, n, what, want, call);
            }
        }
    }

    /** Refuses what is just below and just above a range, and what is far outside. */
    void outside(String what, int lowest, int highest, IntCall call) {
        for (int i : new int[] {LOW, lowest - 1, highest + 1, HIGH}) {
            refused(what + " " + i, BAD, x -> call.on(x, i));
        }
    }

    /** The same for a range that ends with the number of variables. */
    void outsideByVariables(String what, int lowest, Bound highest, IntCall call) {
        for (Kind kind : Kind.values()) {
            for (int n = 1; n <= 5; n++) {
                int top = highest.of(n);
                // 32 and 64 are 0 for a shift that was not looked at before.
                for (int i : new int[] {LOW, lowest - 1, top + 1, 32 + lowest, 64 + lowest, HIGH}) {
                    if (i < lowest || i > top) {
                        refusedAt(kind, n, what + " " + i, BAD, x -> call.on(x, i));
                    }
                }
            }
        }
    }

    void badSlots(String what, IntCall call) {
        outside(what, 0, 7, call);
    }

    void emptySlots(String what, IntCall call) {
        for (int slot : GAPS) {
            refusedBusy(what + " " + slot, EMPTY, x -> call.on(x, slot));
        }
        for (int slot : new int[] {0, 7}) {
            refusedAt(Kind.NEW, 3, what + " " + slot, EMPTY, x -> call.on(x, slot));
        }
    }

    // ---- calls that are not

    /** The answer is this one for a*b+c, in whichever slot it stands, alone. */
    void everySlot(String what, long want, IntCall call) {
        for (int slot = 0; slot < 8; slot++) {
            ReadOnceRecognizer x = new ReadOnceRecognizer();
            x.setTable(slot, 248);
            due.is(what + " " + slot, call.on(x, slot), want);
        }
    }

    /** A call that stores this table does so in every target, the slots 0 (a) and 1 (b) of the operands too. */
    void everyTarget(String what, long want, IntCall call) {
        for (int target = 0; target < 8; target++) {
            ReadOnceRecognizer x = new ReadOnceRecognizer();
            x.setTable(0, 170);
            x.setTable(1, 204);
            due.is(what + " " + target, call.on(x, target), Long.bitCount(want));
            for (int slot = 0; slot < 8; slot++) {
                long stays = slot == 0 ? 170 : slot == 1 ? 204 : EMPTY;
                due.is(what + " " + target + ", table " + slot, x.table(slot), slot == target ? want : stays);
            }
        }
    }
}
