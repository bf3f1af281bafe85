/**
 * Tells all that can be seen of an object. Two objects that tell the same are in the same state; the telling itself
 * changes the object, so each is told once. A telling takes at most some 300 calls.
 */
final class Witness {
    private final ReadOnceRecognizer x;
    private final StringBuilder tale = new StringBuilder();

    private Witness(ReadOnceRecognizer x) {
        this.x = x;
    }

    static String tale(ReadOnceRecognizer x) {
        Witness witness = new Witness(x);
        witness.slots();
        witness.output();
        witness.arrays();
        witness.history();
        witness.steps();
        witness.input();
        witness.samples();
        witness.saved();
        return witness.tale.toString();
    }

    /** Like tale, but without the history, which some methods make empty. */
    static String taleWithoutHistory(ReadOnceRecognizer x) {
        return tale(x).replaceAll("undo[^;]*; ", "");
    }

    private long tell(String what, long answer) {
        tale.append(what).append(' ').append(answer).append("; ");
        return answer;
    }

    private void slots() {
        tell("variables", x.variables());
        tell("usedSlots", x.usedSlots());
        for (int slot = 0; slot < 8; slot++) {
            tell("table " + slot, x.table(slot));
        }
    }

    private void output() {
        boolean more = true;
        for (int i = 0; more && i < 20; i++) {
            more = tell("output " + i, x.output(i)) >= 0;
        }
    }

    private void arrays() {
        for (int array = 0; array < 4; array++) {
            boolean more = true;
            for (int i = 0; more && i < 20; i++) {
                more = tell("element " + array + " " + i, x.element(array, i)) != Long.MIN_VALUE;
            }
        }
    }

    private void history() {
        tell("undoable", x.undoable());
        long slot = tell("undo", x.undo());
        for (int i = 0; i < 10 && slot >= 0; i++) {
            tell("undone, table " + slot, x.table((int) slot));
            slot = tell("undo", x.undo());
        }
    }

    /** Runs the program on slots that are known and different, so that what it stores tells what it is. */
    private void steps() {
        long full = (1L << (1 << x.variables())) - 1;
        for (int slot = 0; slot < 8; slot++) {
            x.setTable(slot, slot * 0x2C9D5B17L + 0x35A6L & full);
        }
        tell("runSteps", x.runSteps());
        for (int slot = 0; slot < 8; slot++) {
            tell("run, table " + slot, x.table(slot));
        }
        tell("clearSteps", x.clearSteps());
    }

    private void input() {
        tell("parse", x.parse(0));
        tell("parsed", x.table(0));
    }

    private void samples() {
        tell("extensions", x.extensions());
        tell("simplestExtension", x.simplestExtension());
        int points = 1 << x.variables();
        for (int p = 0; p < points; p++) {
            if (tell("removeSample " + p, x.removeSample(p)) >= 0) {
                tell("extensions without", x.extensions());
                tell("simplestExtension without", x.simplestExtension());
            }
        }
    }

    private void saved() {
        if (tell("restore", x.restore()) >= 0) {
            slots();
            steps();
            samples();
        }
    }
}
