/** Promises 25 to 31: functions made of functions, and pseudorandom ones. */
final class OperationEdges {
    private static final int A = 170;
    private static final int B = 204;

    private final Edges e;
    private final Due due;

    OperationEdges(Edges e) {
        this.e = e;
        this.due = e.due;
    }

    void all() {
        combine();
        combineRefusals();
        dual();
        cofactor();
        cofactorRefusals();
        substitute();
        substituteRefusals();
        exchange();
        exchangeRefusals();
        random();
        randomRange();
        readOnceTrials();
        readOnceTrialsRange();
    }

    private interface Storing {
        int into(ReadOnceRecognizer x);
    }

    /** What is stored and what is returned, and that it is one change. */
    private void stores(String what, ReadOnceRecognizer x, int target, long table, Storing call) {
        int before = x.undoable();
        due.is(what, call.into(x), Long.bitCount(table));
        due.is(what + ", its table", x.table(target), table);
        due.is(what + ", undoable()", x.undoable(), Math.min(10, before + 1));
    }

    private static ReadOnceRecognizer two(int n, String first, String second) {
        ReadOnceRecognizer x = Edges.holding(n, first);
        Due.parse(x, second, 1);
        return x;
    }

    private void combine() {
        e.promise(25);
        e.says("Stores the result of applying a binary operator to two functions at every point");
        for (int n = 1; n <= 5; n++) {
            long full = Edges.FULL_TABLE[n];
            ReadOnceRecognizer x = two(n, "!0", "a");
            stores("1 and a", x, 2, Edges.TABLE_OF_A[n], y -> y.combine(0, 0, 1, 2));
            stores("1 or a", x, 2, full, y -> y.combine(1, 0, 1, 2));
            stores("1 xor a", x, 2, full - Edges.TABLE_OF_A[n], y -> y.combine(2, 0, 1, 2));
            stores("1 xor 1", x, 2, 0, y -> y.combine(2, 0, 0, 2));
        }

        e.says("operator: 0 for and, 1 for or, 2 for exclusive or");
        stores("and", two(3, "a", "b"), 2, A & B, x -> x.combine(0, 0, 1, 2));
        stores("or", two(3, "a", "b"), 2, A | B, x -> x.combine(1, 0, 1, 2));
        stores("exclusive or", two(3, "a", "b"), 2, A ^ B, x -> x.combine(2, 0, 1, 2));
        e.outside("operator", 0, 2, (x, operator) -> x.combine(operator, 0, 1, 2));

        e.says("left: the slot of the first operand");
        e.everySlot("left", 5, (x, left) -> x.combine(0, left, left, 0));
        e.badSlots("left", (x, left) -> x.combine(0, left, 0, 0));

        e.says("right: the slot of the second operand");
        for (int right = 0; right < 8; right++) {
            ReadOnceRecognizer x = Edges.fresh(3);
            x.setTable(7 - right, A);
            x.setTable(right, 248);
            due.is("right " + right, x.combine(2, 7 - right, right, 3), 3);
            due.is("table(3)", x.table(3), A ^ 248);
        }
        e.badSlots("right", (x, right) -> x.combine(0, 0, right, 0));

        e.says("target: the slot of the result; it may be one of the others");
        e.everyTarget("and", A & B, (x, target) -> x.combine(0, 0, 1, target));
        e.everyTarget("exclusive or", A ^ B, (x, target) -> x.combine(2, 0, 1, target));
        stores("all three the same", Edges.holding(3, "a"), 0, 0, x -> x.combine(2, 0, 0, 0));
        e.badSlots("target", (x, target) -> x.combine(0, 0, 0, target));
    }

    private void combineRefusals() {
        e.says("Returns the number of points at which the result is 1");
        due.is("none", two(5, "a", "!a").combine(0, 0, 1, 2), 0);
        due.is("all", two(5, "a", "!a").combine(1, 0, 1, 2), 32);
        due.is("one", two(5, "a*b*c", "d*e").combine(0, 0, 1, 2), 1);

        e.says("BAD_ARGUMENT if an argument is out of range (checked first)");
        e.refused("all", -2, x -> x.combine(3, 8, -1, 8));
        e.outside("operator, with empty operands", 0, 2, (x, operator) -> x.combine(operator, 3, 6, 0));
        e.badSlots("left, with an empty right", (x, left) -> x.combine(0, left, 3, 0));
        e.badSlots("right, with an empty left", (x, right) -> x.combine(0, 3, right, 0));
        e.badSlots("target, with empty operands", (x, target) -> x.combine(0, 3, 6, target));

        e.says("EMPTY_SLOT if an operand is empty");
        e.refusedBusy("left", -3, x -> x.combine(0, 3, 0, 0));
        e.refusedBusy("right", -3, x -> x.combine(1, 0, 6, 0));
        e.refusedBusy("both", -3, x -> x.combine(2, 3, 6, 7));
        e.refusedBusy("onto the empty one", -3, x -> x.combine(2, 0, 3, 3));
        e.refusedAt(Edges.Kind.NEW, 3, "all empty", -3, x -> x.combine(0, 0, 7, 0));
    }

    private void dual() {
        e.promise(26);
        e.says("Stores the dual of a function");
        stores("of a*b+c", Edges.holding(3, "a*b+c"), 1, 224, x -> x.dual(0, 1));
        stores("of the majority", Edges.holding(3, "a*b+b*c+c*a"), 1, 232, x -> x.dual(0, 1));

        e.says("The value of the dual at a point is 1 minus the value of the function at the complement of the point");
        for (int n = 1; n <= 5; n++) {
            long full = Edges.FULL_TABLE[n];
            stores("of 0", Edges.holding(n, "0"), 1, full, x -> x.dual(0, 1));
            stores("of 1", Edges.holding(n, "1"), 1, 0, x -> x.dual(0, 1));
            stores("of a", Edges.holding(n, "a"), 1, Edges.TABLE_OF_A[n], x -> x.dual(0, 1));
            ReadOnceRecognizer first = Edges.fresh(n);
            first.setTable(0, 1);
            stores("1 at the first point", first, 1, full >> 1, x -> x.dual(0, 1));
            first.setTable(0, 1L << ((1 << n) - 1));
            stores("1 at the last point", first, 1, full - 1, x -> x.dual(0, 1));
        }

        e.says("slot: the slot of the function");
        e.everySlot("dual", 3, (x, slot) -> x.dual(slot, 0));
        e.badSlots("slot", (x, slot) -> x.dual(slot, 0));

        e.says("target: the slot of the result; it may be the same");
        e.everyTarget("dual", A, (x, target) -> x.dual(0, target));
        stores("the same", Edges.holding(3, "a*b+c"), 0, 224, x -> x.dual(0, 0));
        e.badSlots("target", (x, target) -> x.dual(0, target));

        e.says("Returns the number of points at which the result is 1");
        due.is("none", Edges.holding(5, "1").dual(0, 1), 0);
        due.is("one", Edges.holding(5, "a+b+c+d+e").dual(0, 1), 1);
        due.is("all", Edges.holding(5, "0").dual(0, 1), 32);

        e.says("BAD_ARGUMENT if an argument is out of range (checked first)");
        e.refused("both", -2, x -> x.dual(8, -1));
        e.badSlots("target, with an empty slot", (x, target) -> x.dual(3, target));

        e.says("EMPTY_SLOT if the slot is empty");
        e.emptySlots("dual", (x, slot) -> x.dual(slot, 0));
        e.emptySlots("dual onto itself", (x, slot) -> x.dual(slot, slot));
    }

    private void cofactor() {
        e.promise(27);
        e.says("Stores the cofactor of a function: the function whose value at a point is that of the given function at the point"
            + " after the variable has been set to the given value");
        stores("a*b+c, a = 0", Edges.holding(3, "a*b+c"), 1, 240, x -> x.cofactor(0, 0, 0, 1));
        stores("a*b+c, a = 1", Edges.holding(3, "a*b+c"), 1, 252, x -> x.cofactor(0, 0, 1, 1));
        stores("not essential", Edges.holding(3, "a"), 1, A, x -> x.cofactor(0, 2, 1, 1));
        stores("not monotone", Edges.holding(3, "!a*b"), 1, B, x -> x.cofactor(0, 0, 0, 1));

        e.says("slot: the slot of the function");
        e.everySlot("cofactor", 4, (x, slot) -> x.cofactor(slot, 0, 0, 0));
        e.badSlots("slot", (x, slot) -> x.cofactor(slot, 0, 0, 0));

        e.says("variable: the variable, 0 to n - 1");
        for (int n = 1; n <= 5; n++) {
            int last = n - 1;
            ReadOnceRecognizer x = Edges.holding(n, String.valueOf((char) ('a' + last)));
            stores("the last, 0", x, 1, 0, y -> y.cofactor(0, last, 0, 1));
            stores("the last, 1", x, 1, Edges.FULL_TABLE[n], y -> y.cofactor(0, last, 1, 1));
            x = Edges.holding(n, "a");
            stores("the first, 0", x, 1, 0, y -> y.cofactor(0, 0, 0, 1));
            stores("the first, 1", x, 1, Edges.FULL_TABLE[n], y -> y.cofactor(0, 0, 1, 1));
        }
        e.outsideByVariables("variable", 0, n -> n - 1, (x, variable) -> x.cofactor(1, variable, 0, 1));

        e.says("bit: the value, 0 or 1");
        stores("0", Edges.holding(3, "b"), 1, 0, x -> x.cofactor(0, 1, 0, 1));
        stores("1", Edges.holding(3, "b"), 1, 255, x -> x.cofactor(0, 1, 1, 1));
        e.outside("bit", 0, 1, (x, bit) -> x.cofactor(0, 0, bit, 0));

        e.says("target: the slot of the result; it may be the same");
        e.everyTarget("cofactor", 255, (x, target) -> x.cofactor(0, 0, 1, target));
        stores("the same", Edges.holding(3, "a*b+c"), 0, 252, x -> x.cofactor(0, 0, 1, 0));
        e.badSlots("target", (x, target) -> x.cofactor(0, 0, 0, target));
    }

    private void cofactorRefusals() {
        e.says("Returns the number of points at which the result is 1");
        due.is("none", Edges.holding(5, "a*b*c*d*e").cofactor(0, 4, 0, 1), 0);
        due.is("two", Edges.holding(5, "a*b*c*d*e").cofactor(0, 4, 1, 1), 2);
        due.is("all", Edges.holding(5, "a+b").cofactor(0, 0, 1, 1), 32);

        e.says("BAD_ARGUMENT if an argument is out of range (checked first)");
        e.refused("all", -2, x -> x.cofactor(8, 5, 2, 8));
        e.outsideByVariables("variable, with an empty slot", 0, n -> n - 1, (x, variable) -> x.cofactor(3, variable, 0, 0));
        e.outside("bit, with an empty slot", 0, 1, (x, bit) -> x.cofactor(3, 0, bit, 0));
        e.badSlots("target, with an empty slot", (x, target) -> x.cofactor(3, 0, 0, target));

        e.says("EMPTY_SLOT if the slot is empty");
        e.emptySlots("cofactor", (x, slot) -> x.cofactor(slot, 0, 0, 1));
        e.emptySlots("cofactor onto itself", (x, slot) -> x.cofactor(slot, 0, 1, slot));
    }

    private void substitute() {
        e.promise(28);
        e.says("Stores the function that results from substituting a function for a variable: its value at a point is that of the"
            + " outer function at the point after the variable has been set to the value of the inner function at the original"
            + " point");
        stores("b for a in a*c", two(3, "a*c", "b"), 2, B & 240, x -> x.substitute(0, 0, 1, 2));
        stores("not a for a in a", two(3, "a", "!a"), 2, 85, x -> x.substitute(0, 0, 1, 2));
        stores("a*b for b in a+b", two(3, "a+b", "a*b"), 2, A, x -> x.substitute(0, 1, 1, 2));
        stores("a constant", two(3, "a*b+c", "1"), 2, 252, x -> x.substitute(0, 0, 1, 2));
        stores("for one that is not essential", two(3, "a", "b"), 2, A, x -> x.substitute(0, 2, 1, 2));

        e.says("outer: the slot of the outer function");
        e.everySlot("outer", 5, (x, outer) -> x.substitute(outer, 2, outer, 0));
        e.badSlots("outer", (x, outer) -> x.substitute(outer, 0, 0, 0));

        e.says("variable: the variable, 0 to n - 1");
        for (int n = 1; n <= 5; n++) {
            int last = n - 1;
            ReadOnceRecognizer x = two(n, String.valueOf((char) ('a' + last)), "!a");
            stores("the last", x, 2, Edges.FULL_TABLE[n] - Edges.TABLE_OF_A[n], y -> y.substitute(0, last, 1, 2));
        }
        e.outsideByVariables("variable", 0, n -> n - 1, (x, variable) -> x.substitute(1, variable, 1, 1));

        e.says("inner: the slot of the inner function");
        for (int inner = 0; inner < 8; inner++) {
            ReadOnceRecognizer x = Edges.fresh(3);
            x.setTable(7 - inner, A);
            x.setTable(inner, B);
            due.is("inner " + inner, x.substitute(7 - inner, 0, inner, 3), 4);
            due.is("table(3)", x.table(3), B);
        }
        e.badSlots("inner", (x, inner) -> x.substitute(0, 0, inner, 0));

        e.says("target: the slot of the result; it may be one of the others");
        e.everyTarget("substitute", B, (x, target) -> x.substitute(0, 0, 1, target));
        stores("all three the same", Edges.holding(3, "!a"), 0, A, x -> x.substitute(0, 0, 0, 0));
        e.badSlots("target", (x, target) -> x.substitute(0, 0, 0, target));
    }

    private void substituteRefusals() {
        e.says("Returns the number of points at which the result is 1");
        due.is("none", two(5, "a", "0").substitute(0, 0, 1, 2), 0);
        due.is("one", two(5, "a*b", "b*c*d*e*a").substitute(0, 0, 1, 2), 1);
        due.is("all", two(5, "a", "1").substitute(0, 0, 1, 2), 32);

        e.says("BAD_ARGUMENT if an argument is out of range (checked first)");
        e.refused("all", -2, x -> x.substitute(8, 5, -1, 8));
        e.badSlots("outer, with an empty inner", (x, outer) -> x.substitute(outer, 0, 3, 0));
        e.badSlots("inner, with an empty outer", (x, inner) -> x.substitute(3, 0, inner, 0));
        e.badSlots("target, with an empty outer", (x, target) -> x.substitute(3, 0, 0, target));
        e.badSlots("target, with an empty inner", (x, target) -> x.substitute(0, 0, 3, target));
        e.outsideByVariables("variable, both empty", 0, n -> n - 1, (x, variable) -> x.substitute(3, variable, 6, 0));

        e.says("EMPTY_SLOT if the outer or the inner slot is empty");
        e.refusedBusy("outer", -3, x -> x.substitute(3, 0, 0, 1));
        e.refusedBusy("inner", -3, x -> x.substitute(0, 0, 6, 1));
        e.refusedBusy("both", -3, x -> x.substitute(3, 0, 6, 1));
        e.refusedBusy("onto the empty one", -3, x -> x.substitute(0, 0, 3, 3));
        e.refusedAt(Edges.Kind.NEW, 3, "all empty", -3, x -> x.substitute(0, 0, 7, 0));
    }

    private void exchange() {
        e.promise(29);
        e.says("Stores the function that results from exchanging two variables of a function");
        stores("a and c of a*b", Edges.holding(3, "a*b"), 1, 192, x -> x.exchange(0, 0, 2, 1));
        stores("a and c of a+b*!c", Edges.holding(3, "a+b*!c"), 1, 244, x -> x.exchange(0, 0, 2, 1));
        stores("a and b of a*b", Edges.holding(3, "a*b"), 1, 136, x -> x.exchange(0, 0, 1, 1));

        e.says("slot: the slot of the function");
        e.everySlot("exchange", 5, (x, slot) -> x.exchange(slot, 0, 1, 0));
        e.badSlots("slot", (x, slot) -> x.exchange(slot, 0, 0, 0));

        e.says("first: a variable, 0 to n - 1");
        for (int n = 1; n <= 5; n++) {
            int last = n - 1;
            ReadOnceRecognizer x = Edges.holding(n, String.valueOf((char) ('a' + last)));
            stores("the last and the first", x, 1, Edges.TABLE_OF_A[n], y -> y.exchange(0, last, 0, 1));
        }
        e.outsideByVariables("first", 0, n -> n - 1, (x, first) -> x.exchange(1, first, 0, 1));

        e.says("second: a variable, 0 to n - 1; it may be the same");
        for (int n = 1; n <= 5; n++) {
            int last = n - 1;
            ReadOnceRecognizer x = Edges.holding(n, String.valueOf((char) ('a' + last)));
            long before = x.table(0);
            stores("the first and the last", x, 1, Edges.TABLE_OF_A[n], y -> y.exchange(0, 0, last, 1));
            stores("the last and the last", x, 2, before, y -> y.exchange(0, last, last, 2));
            stores("the first and the first", x, 2, before, y -> y.exchange(0, 0, 0, 2));
        }
        e.outsideByVariables("second", 0, n -> n - 1, (x, second) -> x.exchange(1, 0, second, 1));

        e.says("target: the slot of the result; it may be the same as the slot of the function");
        e.everyTarget("exchange", B, (x, target) -> x.exchange(0, 0, 1, target));
        stores("the same", Edges.holding(3, "a*b+c"), 0, 234, x -> x.exchange(0, 0, 2, 0));
        e.badSlots("target", (x, target) -> x.exchange(0, 0, 0, target));
    }

    private void exchangeRefusals() {
        e.says("Returns the number of points at which the result is 1");
        due.is("none", Edges.holding(5, "0").exchange(0, 0, 4, 1), 0);
        due.is("one", Edges.holding(5, "a*b*c*d*!e").exchange(0, 0, 4, 1), 1);
        due.is("all", Edges.holding(5, "1").exchange(0, 0, 4, 1), 32);

        e.says("BAD_ARGUMENT if an argument is out of range (checked first)");
        e.refused("all", -2, x -> x.exchange(8, 5, -1, 8));
        e.outsideByVariables("first, with an empty slot", 0, n -> n - 1, (x, first) -> x.exchange(3, first, 0, 0));
        e.outsideByVariables("second, with an empty slot", 0, n -> n - 1, (x, second) -> x.exchange(3, 0, second, 0));
        e.badSlots("target, with an empty slot", (x, target) -> x.exchange(3, 0, 0, target));

        e.says("EMPTY_SLOT if the slot is empty");
        e.emptySlots("exchange", (x, slot) -> x.exchange(slot, 0, 0, 1));
        e.emptySlots("exchange onto itself", (x, slot) -> x.exchange(slot, 0, 0, slot));
    }

    /** The table by arithmetic that cannot wrap: all of z, as a number from 0 to 2^32 - 1, fits in a long. */
    private static long drawn(int n, int seed, int draws) {
        long z = seed & 0xFFFFFFFFL;
        long table = 0;
        for (int i = 0; i < draws; i++) {
            z = (z * 1103515245L + 12345L) % (1L << 32);
            long set = z / 65536 % (1 << n);
            for (int p = 0; p < 1 << n; p++) {
                table |= (p & set) == set ? 1L << p : 0;
            }
        }
        return table;
    }

    private void random() {
        e.promise(30);
        e.says("Stores a pseudorandom monotone function");
        for (int seed = 0; seed < 40; seed++) {
            ReadOnceRecognizer x = Edges.fresh(5);
            x.random(seed * 77777, 6, 0);
            due.is("isMonotone(0)", x.isMonotone(0), 1);
            due.is("undoable()", x.undoable(), 1);
        }

        e.says("A state z starts with the seed");
        due.is("seed 0 draws 0 first", Edges.fresh(3).random(0, 1, 0), 8);
        due.is("seed 1 draws b and c first", Edges.fresh(3).random(1, 1, 0), 2);

        e.says("For each of the given number of draws, z is replaced by z * 1103515245 + 12345 in 32-bit arithmetic that wraps,"
            + " and the point (z >>> 16) % 2^n is drawn");
        // z is negative after these: a shift that keeps the sign would draw another point, or none.
        stores("seed -1", Edges.fresh(3), 0, 170, x -> x.random(-1, 1, 0));
        stores("seed -1, five variables", Edges.fresh(5), 0, 2852126720L, x -> x.random(-1, 1, 0));
        stores("the highest seed", Edges.fresh(5), 0, 2852126720L, x -> x.random(Edges.HIGH, 1, 0));
        stores("twelve draws", Edges.fresh(5), 0, 4278120174L, x -> x.random(1, 12, 0));
        for (int n = 1; n <= 5; n++) {
            for (int seed : new int[] {Edges.LOW, Edges.LOW + 1, -2, -1, 0, 1, 2, 47, 65536, Edges.HIGH - 1, Edges.HIGH}) {
                for (int draws : new int[] {0, 1, 2, 11, 12}) {
                    long want = drawn(n, seed, draws);
                    stores(seed + ", " + draws, Edges.fresh(n), 0, want, x -> x.random(seed, draws, 0));
                }
            }
        }

        e.says("The function is 1 exactly at those points that contain, as a set, at least one of the drawn points");
        stores("none drawn", Edges.fresh(5), 0, 0, x -> x.random(1, 0, 0));
        stores("the empty set drawn", Edges.fresh(5), 0, 0xFFFFFFFFL, x -> x.random(0, 1, 0));
        stores("b and c drawn", Edges.fresh(3), 0, 192, x -> x.random(1, 1, 0));
    }

    private void randomRange() {
        e.says("seed: the seed, any int");
        stores("the lowest", Edges.fresh(3), 0, 255, x -> x.random(Edges.LOW, 1, 0));
        stores("the highest", Edges.fresh(3), 0, 170, x -> x.random(Edges.HIGH, 1, 0));

        e.says("draws: the number of draws, 0 to 12");
        stores("0", Edges.fresh(5), 0, 0, x -> x.random(47, 0, 0));
        stores("11", Edges.fresh(5), 0, 4291362760L, x -> x.random(47, 11, 0));
        stores("12", Edges.fresh(5), 0, 4291624904L, x -> x.random(47, 12, 0));
        e.outside("draws", 0, 12, (x, draws) -> x.random(1, draws, 0));

        e.says("target: the slot of the result");
        e.everyTarget("random", 192, (x, target) -> x.random(1, 1, target));
        e.badSlots("target", (x, target) -> x.random(1, 1, target));

        e.says("Returns the number of points at which the result is 1");
        due.is("none", Edges.fresh(5).random(1, 0, 0), 0);
        due.is("all", Edges.fresh(5).random(0, 1, 0), 32);
        due.is("eight", Edges.fresh(5).random(1, 1, 0), 8);

        e.says("BAD_ARGUMENT if the number of draws or the slot is out of range");
        e.refused("both", -2, x -> x.random(1, 13, 8));
        e.refused("the draws", -2, x -> x.random(1, 13, 3));
        e.refused("the slot", -2, x -> x.random(1, 0, -1));
    }

    private int counted(int n, int seed, int draws, int trials) {
        int found = 0;
        for (int i = 0; i < trials; i++) {
            ReadOnceRecognizer x = Edges.fresh(n);
            x.random(seed + i, draws, 0);
            found += x.reason(0) == 0 ? 1 : 0;
        }
        return found;
    }

    private void readOnceTrials() {
        e.promise(31);
        e.says("Returns how many of several pseudorandom functions are read-once", "Returns the number of functions that are"
            + " read-once");
        for (int n = 1; n <= 5; n++) {
            for (int draws = 0; draws <= 12; draws++) {
                due.is("draws " + draws, Edges.fresh(n).readOnceTrials(n, draws, 30), counted(n, n, draws, 30));
            }
        }

        e.says("The functions are those that random would store for the seeds seed, seed + 1 and so on, in 32-bit arithmetic that"
            + " wraps");
        for (int n = 3; n <= 5; n++) {
            for (int seed : new int[] {Edges.LOW, -3, -1, 0, Edges.HIGH - 14, Edges.HIGH - 1, Edges.HIGH}) {
                due.is("from " + seed, Edges.fresh(n).readOnceTrials(seed, 4, 30), counted(n, seed, 4, 30));
                due.is("two from " + seed, Edges.fresh(n).readOnceTrials(seed, 5, 2), counted(n, seed, 5, 2));
            }
        }

        e.says("No slot is changed");
        for (Edges.Kind kind : Edges.Kind.values()) {
            for (int n = 1; n <= 5; n++) {
                e.refusedAt(kind, n, "no draws, three trials", 3, x -> x.readOnceTrials(0, 0, 3));
            }
        }
    }

    private void readOnceTrialsRange() {
        e.says("seed: the first seed, any int");
        due.is("the lowest", Edges.fresh(3).readOnceTrials(Edges.LOW, 1, 1), 1);
        due.is("the highest", Edges.fresh(3).readOnceTrials(Edges.HIGH, 1, 1), 1);

        e.says("draws: the number of draws, 0 to 12");
        due.is("0", Edges.fresh(5).readOnceTrials(9, 0, 30), 30);
        due.is("12", Edges.fresh(5).readOnceTrials(9, 12, 30), counted(5, 9, 12, 30));
        e.outside("draws", 0, 12, (x, draws) -> x.readOnceTrials(0, draws, 1));

        e.says("trials: the number of functions, 1 to 30");
        due.is("1", Edges.fresh(5).readOnceTrials(9, 0, 1), 1);
        due.is("30", Edges.fresh(5).readOnceTrials(9, 0, 30), 30);
        e.outside("trials", 1, 30, (x, trials) -> x.readOnceTrials(0, 0, trials));

        e.says("BAD_ARGUMENT if an argument is out of range");
        e.refused("both", -2, x -> x.readOnceTrials(0, 13, 31));
        e.refused("the draws", -2, x -> x.readOnceTrials(0, -1, 30));
        e.refused("the trials", -2, x -> x.readOnceTrials(0, 12, 0));
    }
}
