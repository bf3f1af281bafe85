/** Counts and prints the answers that are not as due. */
final class Due {
    private int wrong = 0;
    private int asked = 0;
    private String section = "";

    void section(String name) {
        section = name;
    }

    void is(String call, long got, long want) {
        asked++;
        if (got != want) {
            wrong++;
            System.out.println(section + ": " + call + " answered " + got + ", due is " + want);
        }
    }

    void holds(String what, boolean it) {
        is(what, it ? 1 : 0, 1);
    }

    void end() {
        System.out.println(asked + " answers looked at, " + wrong + " wrong");
        if (wrong != 0) {
            System.exit(1);
        }
    }

    static void feedAll(ReadOnceRecognizer x, String text) {
        for (int i = 0; i < text.length(); i++) {
            x.feed(text.charAt(i));
        }
    }

    static int parse(ReadOnceRecognizer x, String text, int slot) {
        feedAll(x, text);
        return x.parse(slot);
    }

    static String written(ReadOnceRecognizer x) {
        StringBuilder text = new StringBuilder();
        for (int i = 0; x.output(i) >= 0; i++) {
            text.append((char) x.output(i));
        }
        return text.toString();
    }
}
