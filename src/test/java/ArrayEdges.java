/** Promises 44 to 47: the arrays. */
final class ArrayEdges {
    private static final long NO_ELEMENT = Long.MIN_VALUE;
    /** The array that a busy object does not have. */
    private static final int MISSING = 1;

    private final Edges e;
    private final Due due;

    ArrayEdges(Edges e) {
        this.e = e;
        this.due = e.due;
    }

    void all() {
        createArray();
        setElement();
        element();
        compare();
        compareRefusals();
    }

    private void createArray() {
        e.promise(44);
        e.says("Creates an int array in place of one of four arrays, which are numbered 0 to 3 and do not exist at first");
        for (int array = 0; array < 4; array++) {
            ReadOnceRecognizer x = Edges.holding(3, "a");
            due.is("no element at first", x.element(array, 0), NO_ELEMENT);
            due.is("nothing to set at first", x.setElement(array, 0, 1), -11);
            due.is("nothing to compare at first", x.compare(array, 0), -11);
            x.createArray(array, 2);
            due.is("it holds any int", x.setElement(array, 1, Edges.LOW), 1);
            due.is("element", x.element(array, 1), Edges.LOW);
            for (int other = 0; other < 4; other++) {
                due.is("array " + other, x.element(other, 0), other == array ? 0 : NO_ELEMENT);
            }
            x.createArray(array, 1);
            due.is("a shorter one in its place", x.element(array, 1), NO_ELEMENT);
            x.createArray(array, 3);
            due.is("a longer one in its place", x.element(array, 2), 0);
        }

        e.says("All elements are 0");
        ReadOnceRecognizer x = Edges.full(3);
        for (int array = 0; array < 4; array++) {
            for (int i = 0; i < 16; i++) {
                x.setElement(array, i, -1);
            }
            x.createArray(array, 5);
            x.createArray(array, 16);
            for (int i = 0; i < 16; i++) {
                due.is("element(" + array + ", " + i + ")", x.element(array, i), 0);
            }
        }

        e.says("array: the array, 0 to 3");
        for (int array = 0; array < 4; array++) {
            due.is("createArray(" + array + ", 1)", new ReadOnceRecognizer().createArray(array, 1), 1);
        }
        e.outside("array", 0, 3, (y, array) -> y.createArray(array, 1));

        e.says("length: the length, 0 to 16");
        due.is("0", x.createArray(2, 0), 1);
        due.is("no first element", x.element(2, 0), NO_ELEMENT);
        due.is("but an array", x.setElement(2, 0, 1), -13);
        due.is("16", x.createArray(2, 16), 1);
        due.is("the sixteenth", x.element(2, 15), 0);
        due.is("no seventeenth", x.element(2, 16), NO_ELEMENT);

        e.says("Returns 1");
        due.is("a new one", Edges.fresh(1).createArray(0, 3), 1);
        due.is("in place of one", Edges.full(1).createArray(0, 3), 1);

        e.says("BAD_ARGUMENT if the array number is out of range or the length is greater than 16 (checked first)");
        for (int length : new int[] {17, 18, Edges.HIGH}) {
            e.refused("length " + length, -2, y -> y.createArray(0, length));
        }
        e.outside("array, with a negative length", 0, 3, (y, array) -> y.createArray(array, -1));
        e.outside("array, with length 17", 0, 3, (y, array) -> y.createArray(array, 17));
        e.outside("array, with length 0", 0, 3, (y, array) -> y.createArray(array, 0));

        e.says("-14 if the length is negative");
        for (int length : new int[] {-1, -2, -16, Edges.LOW}) {
            e.refused("length " + length, -14, y -> y.createArray(0, length));
            e.refused("length " + length, -14, y -> y.createArray(3, length));
        }
    }

    private void setElement() {
        e.promise(45);
        e.says("Sets an element of an array");
        ReadOnceRecognizer x = Edges.full(2);
        x.setElement(1, 4, 44);
        due.is("element(1, 4)", x.element(1, 4), 44);
        due.is("element(1, 3)", x.element(1, 3), 0);
        due.is("element(1, 5)", x.element(1, 5), 0);
        due.is("element(0, 4)", x.element(0, 4), 0);
        due.is("element(2, 4)", x.element(2, 4), 0);
        x.setElement(1, 15, 15);
        due.is("element(2, 0) stays", x.element(2, 0), 0);

        e.says("array: the array, 0 to 3");
        for (int array = 0; array < 4; array++) {
            due.is("setElement(" + array + ")", x.setElement(array, 0, array + 5), 1);
            due.is("element(" + array + ")", x.element(array, 0), array + 5);
        }

        e.says("i: the index");
        for (int i = 0; i < 16; i++) {
            due.is("setElement(3, " + i + ")", x.setElement(3, i, i - 8), 1);
        }
        for (int i = 0; i < 16; i++) {
            due.is("element(3, " + i + ")", x.element(3, i), i - 8);
        }

        e.says("v: the value");
        for (int v : new int[] {Edges.LOW, -1, 0, 1, Edges.HIGH}) {
            due.is("setElement(0, 0, " + v + ")", x.setElement(0, 0, v), 1);
            due.is("element(0, 0)", x.element(0, 0), v);
        }

        e.says("Returns 1");
        due.is("another value", x.setElement(0, 0, 5), 1);
        due.is("the same value", x.setElement(0, 0, 5), 1);

        e.says("BAD_ARGUMENT if the array number is out of range (checked first)");
        e.outside("array", 0, 3, (y, array) -> y.setElement(array, 0, 1));
        e.outside("array, with a bad index", 0, 3, (y, array) -> y.setElement(array, -1, 1));

        e.says("-11 if the array does not exist (checked second)");
        for (int i : new int[] {Edges.LOW, -1, 0, 15, 16, Edges.HIGH}) {
            e.refusedBusy("index " + i, -11, y -> y.setElement(MISSING, i, 1));
            e.refusedAt(Edges.Kind.NEW, 3, "index " + i, -11, y -> y.setElement(3, i, 1));
        }

        e.says("-13 if the index is out of range");
        for (int i : new int[] {Edges.LOW, -1, 3, 16, Edges.HIGH}) {
            e.refusedBusy("index " + i + " of three", -13, y -> y.setElement(0, i, 1));
        }
        for (int i : new int[] {Edges.LOW, -1, 0, 1, Edges.HIGH}) {
            e.refusedBusy("index " + i + " of none", -13, y -> y.setElement(2, i, 1));
        }
        for (int i : new int[] {Edges.LOW, -1, 16, 32, Edges.HIGH}) {
            e.refusedBusy("index " + i + " of sixteen", -13, y -> y.setElement(3, i, 1));
        }
    }

    private void element() {
        e.promise(46);
        e.says("Returns an element of an array", "Returns the element");
        ReadOnceRecognizer x = Edges.busy(4);
        due.is("element(0, 0)", x.element(0, 0), 1);
        due.is("element(0, 1)", x.element(0, 1), -1);
        due.is("element(0, 2)", x.element(0, 2), 0);
        x.setElement(0, 2, Edges.LOW);
        due.is("the lowest int is no error", x.element(0, 2), Edges.LOW);

        e.says("array: the array");
        x = Edges.full(4);
        for (int array = 0; array < 4; array++) {
            due.is("element(" + array + ", " + array + ")", x.element(array, array), array - 9);
        }

        e.says("i: the index");
        due.is("the first", Edges.full(4).element(0, 0), -9);
        due.is("the last of sixteen", Edges.busy(4).element(3, 15), 7);
        due.is("the last of three", Edges.busy(4).element(0, 2), 0);

        e.says("Long.MIN_VALUE if there is no such array or no such element");
        for (int array : new int[] {Edges.LOW, -1, 4, Edges.HIGH}) {
            e.refused("array " + array, NO_ELEMENT, y -> y.element(array, 0));
            e.refused("array " + array, NO_ELEMENT, y -> y.element(array, -1));
        }
        for (int i : new int[] {Edges.LOW, -1, 0, 16, Edges.HIGH}) {
            e.refusedBusy("no array, index " + i, NO_ELEMENT, y -> y.element(MISSING, i));
            e.refusedBusy("no elements, index " + i, NO_ELEMENT, y -> y.element(2, i));
        }
        for (int i : new int[] {Edges.LOW, -1, 3, 16, Edges.HIGH}) {
            e.refusedBusy("three elements, index " + i, NO_ELEMENT, y -> y.element(0, i));
        }
        for (int i : new int[] {Edges.LOW, -1, 16, Edges.HIGH}) {
            e.refused("sixteen elements or none, index " + i, NO_ELEMENT, y -> y.element(3, i));
        }
    }

    /** Array 0 has these elements, slot 0 the function. */
    private static ReadOnceRecognizer pair(String formula, int... elements) {
        ReadOnceRecognizer x = Edges.holding(5, formula);
        x.createArray(0, elements.length);
        for (int i = 0; i < elements.length; i++) {
            x.setElement(0, i, elements[i]);
        }
        return x;
    }

    private void compare() {
        String pairs = "a*b+a*c+a*d+a*e+b*c+b*d+b*e+c*d+c*e+d*e";
        e.promise(47);
        e.says("Compares an array with the prime implicants of a function in their order");
        due.is("the same", pair("c+a*b", 3, 4).compare(0, 0), -1);
        due.is("another order", pair("c+a*b", 4, 3).compare(0, 0), 0);
        due.is("ten", pair(pairs, 3, 5, 6, 9, 10, 12, 17, 18, 20, 24).compare(0, 0), -1);

        e.says("Element i is compared with prime implicant i, or with NONE if there is no prime implicant with index i");
        due.is("longer, with NONE", pair("c+a*b", 3, 4, -1, -1).compare(0, 0), -1);
        due.is("longer, with 0", pair("c+a*b", 3, 4, 0).compare(0, 0), 2);
        due.is("longer, the last is 0", pair("c+a*b", 3, 4, -1, 0).compare(0, 0), 3);
        due.is("of 0, with NONE", pair("0", -1).compare(0, 0), -1);
        due.is("of 0, with 0", pair("0", 0).compare(0, 0), 0);
        due.is("of 1, with 0", pair("1", 0).compare(0, 0), -1);
        due.is("of 1, with 0 and 0", pair("1", 0, 0).compare(0, 0), 1);
        due.is("of 1, with 0 and NONE", pair("1", 0, -1).compare(0, 0), -1);
        int[] sixteen = {3, 5, 6, 9, 10, 12, 17, 18, 20, 24, -1, -1, -1, -1, -1, -1};
        due.is("sixteen elements", pair(pairs, sixteen).compare(0, 0), -1);
        sixteen[15] = 0;
        due.is("the sixteenth", pair(pairs, sixteen).compare(0, 0), 15);

        e.says("Prime implicants beyond the length of the array are not compared");
        due.is("shorter", pair("c+a*b", 3).compare(0, 0), -1);
        due.is("shorter, and another", pair("c+a*b", 4).compare(0, 0), 0);
        due.is("no elements", pair("c+a*b").compare(0, 0), -1);

        e.says("Returns the lowest index at which the two differ");
        due.is("the first", pair("a+b", 5, 5).compare(0, 0), 0);
        due.is("the second", pair("a+b", 1, 5).compare(0, 0), 1);
        due.is("both ends", pair("a+b+c", 0, 2, 0).compare(0, 0), 0);
    }

    private void compareRefusals() {
        e.says("array: the array, 0 to 3");
        for (int array = 0; array < 4; array++) {
            ReadOnceRecognizer x = Edges.holding(3, "a");
            x.createArray(array, 1);
            due.is("compare(" + array + ", 0)", x.compare(array, 0), 0);
        }
        e.outside("array", 0, 3, (x, array) -> x.compare(array, 0));

        e.says("slot: the slot, 0 to 7");
        for (int slot = 0; slot < 8; slot++) {
            ReadOnceRecognizer x = Edges.fresh(3);
            x.setTable(slot, 170);
            x.createArray(0, 2);
            x.setElement(0, 0, 1);
            due.is("compare(0, " + slot + ")", x.compare(0, slot), 1);
        }
        e.badSlots("compare", (x, slot) -> x.compare(0, slot));

        e.says("BAD_ARGUMENT if an argument is out of range (checked first)");
        e.refused("both", -2, x -> x.compare(4, 8));
        e.outside("array, with an empty slot", 0, 3, (x, array) -> x.compare(array, 3));
        e.outside("array, not monotone", 0, 3, (x, array) -> x.compare(array, 2));
        e.badSlots("slot, without array", (x, slot) -> x.compare(MISSING, slot));

        e.says("EMPTY_SLOT if the slot is empty (checked second)");
        e.emptySlots("compare", (x, slot) -> x.compare(0, slot));
        e.emptySlots("compare without array", (x, slot) -> x.compare(MISSING, slot));

        e.says("NOT_MONOTONE if the function is not monotone (checked third)");
        e.refusedBusy("compare", -4, x -> x.compare(0, 2));
        e.refusedBusy("compare without array", -4, x -> x.compare(MISSING, 2));

        e.says("-11 if the array does not exist (checked fourth)");
        e.refusedBusy("a", -11, x -> x.compare(MISSING, 0));
        e.refusedBusy("1", -11, x -> x.compare(MISSING, 1));

        e.says("NONE if they do not differ");
        e.refusedBusy("an array of length 0", -1, x -> x.compare(2, 0));
        due.is("the same", pair("a", 1).compare(0, 0), -1);
        due.is("all five", pair("a*b*c*d*e", 31).compare(0, 0), -1);
    }
}
