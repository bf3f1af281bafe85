/** Counts and prints the answers that are not as due. */
final class Due {
    private int wrong = 0;
    private int asked = 0;
    private String section = "";

    void section(String name) {
        section = name;
    }

    void is(String call, long got, long want) {
        asked++;
        if (got != want) {
            wrong++;
            System.out.println(section + ": " + call + " answered " + got + ", due is " + want);
        }
    }

    void same(String what, String got, String want) {
        int at = 0;
        while (at < got.length() && at < want.length() && got.charAt(at) == want.charAt(at)) {
            at++;
        }
        String which = got.equals(want) ? "" : " told .." + part(got, at) + ", due is .." + part(want, at);
        holds(what + which, got.equals(want));
    }

    /** The text about a place: all of a long one would hide where it differs. */
    private static String part(String text, int at) {
        return text.substring(Math.max(0, at - 30), Math.min(text.length(), at + 30));
    }

    int asked() {
        return asked;
    }

    void holds(String what, boolean it) {
        is(what, it ? 1 : 0, 1);
    }

    void end() {
        System.out.println(asked + " answers looked at, " + wrong + " wrong");
        if (wrong != 0) {
            System.exit(1);
        }
    }

    static void feedAll(ReadOnceRecognizer x, String text) {
        for (int i = 0; i < text.length(); i++) {
            x.feed(text.charAt(i));
        }
    }

    static int parse(ReadOnceRecognizer x, String text, int slot) {
        feedAll(x, text);
        return x.parse(slot);
    }

    static String written(ReadOnceRecognizer x) {
        StringBuilder text = new StringBuilder();
        for (int i = 0; i < 20 && x.output(i) >= 0; i++) {
            text.append((char) x.output(i));
        }
        return text.toString();
    }
}
