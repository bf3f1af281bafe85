/** Promises 23 and 24, and what the description says of formulas. */
final class TextEdges {
    private final Edges e;
    private final Due due;

    TextEdges(Edges e) {
        this.e = e;
        this.due = e.due;
    }

    void all() {
        feed();
        parse();
        parseAnswers();
        buffer();
        grammar();
        openSigns();
        errorPosition();
        seventhSign();
    }

    /** A text of this length that is a formula: an odd one of "a" and "+", with a "!" before it if it is even. */
    private static String formula(int length) {
        StringBuilder text = new StringBuilder(length % 2 == 0 ? "!a" : "a");
        while (text.length() < length) {
            text.append("+a");
        }
        return text.toString();
    }

    private void feed() {
        e.promise(23);
        e.says("Appends a byte to the input buffer");
        ReadOnceRecognizer x = new ReadOnceRecognizer();
        x.feed('!');
        x.feed('a');
        due.is("in this order", x.parse(0), 1);
        due.is("table(0)", x.table(0), 85);

        e.says("letter: the byte, 1 to 127");
        due.is("feed(1)", x.feed(1), 1);
        due.is("feed(127)", x.feed(127), 2);

        e.says("Returns the number of bytes in the buffer");
        x.parse(0);
        for (int i = 1; i <= 80; i++) {
            due.is("byte " + i, x.feed('a'), i);
        }

        e.says("BAD_ARGUMENT if the byte is out of range (checked first)");
        e.outside("feed", 1, 127, ReadOnceRecognizer::feed);
        // These are the letter a in their low bytes.
        e.refused("feed(353)", -2, y -> y.feed(256 + 'a'));
        e.refused("feed(-159)", -2, y -> y.feed('a' - 256));

        e.says("FULL if the buffer already holds 80 bytes");
        for (int n = 1; n <= 5; n++) {
            e.refusedAt(Edges.Kind.FULL, n, "feed('a')", -6, y -> y.feed('a'));
            e.refusedAt(Edges.Kind.FULL, n, "feed(1)", -6, y -> y.feed(1));
            e.refusedAt(Edges.Kind.FULL, n, "feed(127)", -6, y -> y.feed(127));
        }
        due.is("the 81st", x.feed('a'), -6);
        x.parse(0);
        due.is("after the buffer was emptied", x.feed('a'), 1);
    }

    private void parse() {
        e.promise(24);
        e.says("Parses the input buffer as a formula and stores the function in a slot");
        for (int n = 1; n <= 5; n++) {
            ReadOnceRecognizer x = Edges.busy(n);
            x.feed('a');
            due.is("parse(6)", x.parse(6), 2);
            due.is("table(6)", x.table(6), Edges.TABLE_OF_A[n]);
            due.is("usedSlots()", x.usedSlots(), 7);
            due.is("undo()", x.undo(), 6);
        }

        e.says("The buffer is empty afterwards, even if the text contains an error");
        for (int n = 1; n <= 5; n++) {
            ReadOnceRecognizer x = Edges.busy(n);
            due.is("parse(0) of an error", x.parse(0), -102);
            due.same("all else is as it was", Witness.tale(x), Witness.tale(Edges.busyWithoutInput(n)));
        }
        for (String text : new String[] {"a", "0", "", "a+", "x", "((((((("}) {
            ReadOnceRecognizer x = new ReadOnceRecognizer();
            Due.parse(x, text, 0);
            due.is("empty after " + text, x.parse(0), -100);
            due.is("the next byte after " + text, x.feed('a'), 1);
        }

        e.says("only if the result is BAD_ARGUMENT, it is left as it is");
        ReadOnceRecognizer x = new ReadOnceRecognizer();
        Due.feedAll(x, formula(80));
        due.is("parse(8)", x.parse(8), -2);
        due.is("parse(-1)", x.parse(-1), -2);
        due.is("still 80 bytes", x.feed('a'), -6);
        due.is("parse(0)", x.parse(0), 40);

        e.says("slot: the slot, 0 to 7");
        e.everySlot("parse", 2, (y, slot) -> Due.parse(y, "a*b", slot));
        for (int slot = 0; slot < 8; slot++) {
            due.is("table(" + slot + ")", parsed("a*b", slot).table(slot), 136);
        }
    }

    private static ReadOnceRecognizer parsed(String text, int slot) {
        ReadOnceRecognizer x = new ReadOnceRecognizer();
        Due.parse(x, text, slot);
        return x;
    }

    private void parseAnswers() {
        e.says("Returns the number of variable occurrences in the formula");
        reads(3, "0", 0, 0);
        reads(3, "1", 0, 255);
        reads(3, "a", 1, 170);
        reads(3, "a*a", 2, 170);
        reads(3, "!(a+!a)*1", 2, 0);
        reads(3, formula(79), 40, 170);
        reads(3, formula(80), 40, 255);
        reads(5, "a+b+c+d+e", 5, 0xFFFFFFFEL);

        e.says("BAD_ARGUMENT if the slot is out of range (checked first)");
        e.badSlots("parse", ReadOnceRecognizer::parse);

        e.says("-100 minus the error position if the text is not a formula");
        fails(3, "", 0);
        fails(3, "a+", 2);
        fails(3, formula(79) + "+", 80);
        fails(3, formula(79) + "a", 79);
        fails(3, "x" + formula(79), 0);
    }

    private void reads(int n, String text, int occurrences, long table) {
        ReadOnceRecognizer x = Edges.fresh(n);
        due.is("parse of " + text, Due.parse(x, text, 0), occurrences);
        due.is("table of " + text, x.table(0), table);
        due.is("undoable() after " + text, x.undoable(), 1);
    }

    private void fails(int n, String text, int position) {
        ReadOnceRecognizer x = Edges.fresh(n);
        due.is("parse of " + text, Due.parse(x, text, 0), -100 - position);
        due.is("no table of " + text, x.table(0), -3);
        due.is("undoable() after " + text, x.undoable(), 0);
        x.setTable(0, 2);
        due.is("parse again of " + text, Due.parse(x, text, 0), -100 - position);
        due.is("the table before " + text, x.table(0), 2);
        due.is("undoable() after another", x.undoable(), 1);
    }

    private void buffer() {
        e.promise(0);
        e.says("A formula is read from an input buffer of at most 80 bytes");
        reads(3, formula(79), 40, 170);
        reads(3, formula(80), 40, 255);
        // The 81st byte would make the text a formula; it is refused, so the text ends too early.
        fails(3, formula(79) + "+a", 80);
    }

    private void grammar() {
        e.says("It has this grammar, where braces mean zero or more repetitions: formula = term { \"+\" term }"
            + " term = factor { \"*\" factor } factor = variable | \"0\" | \"1\" | \"!\" factor | \"(\" formula \")\""
            + " variable = one of the letters of the n variables \"+\" means or, \"*\" means and, \"!\" means not");
        reads(3, "a+b", 2, 238);
        reads(3, "a*b", 2, 136);
        reads(3, "a+b*c", 3, 234);
        reads(3, "(a+b)*c", 3, 224);
        reads(3, "!a*b", 2, 68);
        reads(3, "!(a*b)", 2, 119);
        reads(3, "!!a", 1, 170);
        reads(3, "!0", 0, 255);
        reads(3, "!1", 0, 0);
        reads(3, "(((0)))", 0, 0);
        for (int n = 1; n <= 5; n++) {
            String last = String.valueOf((char) ('a' + n - 1));
            String next = String.valueOf((char) ('a' + n));
            due.holds("the last letter of " + n, Due.parse(Edges.fresh(n), last, 0) == 1);
            fails(n, next, 0);
            fails(n, "a+" + next, 2);
        }
        for (String text : new String[] {"`", "A", "2", "/", "\u0001", "\u007f", "+", "*", ")"}) {
            fails(5, text, 0);
        }
        for (String text : new String[] {"a", "0", "1", "!", "(", "b+c"}) {
            fails(5, "a" + text, 1);
            fails(5, "1" + text, 1);
            fails(5, "(a)" + text, 3);
        }

        e.says("There are no spaces");
        fails(3, " a", 0);
        fails(3, "a ", 1);
        fails(3, "a +b", 1);
        fails(3, "a+ b", 2);
    }

    private void openSigns() {
        e.says("At most 6 of the signs \"!\" and \"(\" may be open at the same time: a \"(\" is open until its \")\", a \"!\" is"
            + " open until the end of its factor");
        reads(3, "((((((a))))))", 1, 170);
        reads(3, "!!!!!!a", 1, 170);
        reads(3, "!(!(!(a)))", 1, 85);
        reads(3, "(!(!(!a)))", 1, 85);
        reads(3, "((((((a))))))*((((((b))))))", 2, 136);
        reads(3, "!!!!!!a*!!!!!!b", 2, 136);
        reads(3, "(((((!a+!b)))))", 2, 119);
        reads(3, "!(((((a)))+b)*c)", 3, 31);
        reads(3, "(((((a)*(b)))))", 2, 136);
        reads(3, "(((((a)+((b))))))", 2, 238);
        reads(3, "!!!!!(a)+!!!!!(b)", 2, 119);
        reads(3, "(!!!!!a*!!!!!b)", 2, 17);
    }

    private void errorPosition() {
        e.says("The error position is the offset, from 0, of the first byte that is not allowed at its place, or the number of"
            + " bytes in the buffer if the text ends too early");
        fails(3, "", 0);
        fails(3, "!", 1);
        fails(3, "(", 1);
        fails(3, "(a", 2);
        fails(3, "(a+", 3);
        fails(3, "a*", 2);
        fails(3, "!(a", 3);
        fails(3, "((((((a)))))", 12);
        fails(3, "()", 1);
        fails(3, "!)", 1);
        fails(3, "a)", 1);
        fails(3, "(a))", 3);
        fails(3, "a+*b", 2);
        fails(3, "a**b", 2);
        fails(3, "a++b", 2);
        fails(3, "(a+b)c)", 5);
        fails(3, "d+", 0);
        fails(3, "a+b+d+e", 4);
        fails(3, "(a!", 2);
    }

    private void seventhSign() {
        e.says("A \"!\" or \"(\" that would be the seventh open sign is not allowed");
        fails(3, "(((((((a)))))))", 6);
        fails(3, "!!!!!!!a", 6);
        fails(3, "!!!!!!(a)", 6);
        fails(3, "((((((!a))))))", 6);
        fails(3, "(!(!(!(a))))", 6);
        fails(3, "((((((a+(b)))))))", 8);
        fails(3, "((((((a*!b))))))", 8);
        fails(3, "!!!!!!a*!!!!!!!b", 14);
        fails(3, "(((((((", 6);
        fails(3, "!!!!!!!", 6);
        fails(3, "((((((", 6);
        fails(3, "(((((a)+(((b)))))))", 10);
    }
}
