import java.lang.reflect.Method;
import java.util.ArrayList;
import java.util.Arrays;
import java.util.Comparator;
import java.util.List;
import java.util.Random;

/** Long runs of calls, drawn from a fixed seed, on the class and on the model: all answers must be the same. */
public final class RandomRunsTest {
    private static final int RUNS = 1500;
    private static final int CALLS = 512;
    private static final int[] ODD = {
        Integer.MIN_VALUE, -1000000, -33, -2, -1, 5, 8, 9, 13, 16, 17, 31, 32, 80, 127, 128, 1000000, Integer.MAX_VALUE
    };
    private static final String[] TEXTS = {
        "a", "0", "1", "a*b+c", "a*b+b*c+c*a", "a*b+b*c+c*d", "(a+b)*(c+d)", "!a", "!!!!!!b", "!!!!!!!b", "((((((a))))))",
        "(((((((a)))))))", "!(a+!(b*!(c)))", "!(!(!(a)))+!(!(!(!b)))", "a*(b+c*(d+e))", "a+", "*a", "a b", ")", "a)", "(a",
        "()", "ab", "a!b", "a(b)", "!", "(", "a+b*", "2", "A", "e*d*c*b*a", "e+d+c+b+a", "a*e+b*e+c*d", "a*b*c+c*d*e",
        "a*b+b*c+c*d+d*e+e*a", "(a*b+c)*(d+e)", "1*a+0*b", "!a*a", "!a+a", "!!!!!(a)+!!!!!(a)", "!!!!!!(a)"
    };

    private final Random dice;
    private final ReadOnceRecognizer real = new ReadOnceRecognizer();
    private final Model model = new Model();
    private final List<String> told = new ArrayList<>();
    private int calls = 0;
    private boolean wrong = false;

    private RandomRunsTest(int seed) {
        dice = new Random(seed);
    }

    public static void main(String[] args) throws ReflectiveOperationException {
        List<Method> methods = new ArrayList<>();
        for (Method m : ReadOnceRecognizer.class.getDeclaredMethods()) {
            if (java.lang.reflect.Modifier.isPublic(m.getModifiers())) methods.add(m);
        }
        methods.sort(Comparator.comparing(Method::getName));
        boolean failed = methods.size() != 48;
        for (int seed = 0; seed < RUNS && !failed; seed++) {
            RandomRunsTest run = new RandomRunsTest(seed);
            failed = run.goes(methods);
        }
        System.out.println(failed ? "a run differs from the model" : RUNS + " runs like the model's");
        if (failed) System.exit(1);
    }

    private boolean goes(List<Method> methods) throws ReflectiveOperationException {
        if (dice.nextInt(4) != 0) call("setVariables", 1 + dice.nextInt(5));
        while (calls < CALLS && !wrong) {
            int kind = dice.nextInt(12);
            if (kind == 0) {
                typeText();
            } else if (kind < 3) {
                call("random", dice.nextInt(), dice.nextInt(8), dice.nextInt(8));
            } else if (kind == 3 && dice.nextInt(3) == 0) {
                typeReadOnce();
            } else {
                callAny(methods.get(dice.nextInt(methods.size())));
            }
        }
        return wrong;
    }

    private void typeText() throws ReflectiveOperationException {
        StringBuilder text = new StringBuilder(TEXTS[dice.nextInt(TEXTS.length)]);
        if (dice.nextInt(3) == 0) text.append("+*)(".charAt(dice.nextInt(4))).append(TEXTS[dice.nextInt(TEXTS.length)]);
        if (dice.nextInt(3) == 0) text.setCharAt(dice.nextInt(text.length()), "abcdef01+*!() x".charAt(dice.nextInt(15)));
        for (int i = 0; i < text.length(); i++) call("feed", (int) text.charAt(i));
        call("parse", dice.nextInt(8));
    }

    /** Copies an extension into a slot and looks at its whole tree. */
    private void typeReadOnce() throws ReflectiveOperationException {
        long f = model.extension(dice.nextInt(1 + Math.max(0, model.extensions() - 1)));
        int slot = dice.nextInt(8);
        call("setTable", slot, f);
        call("reason", slot);
        for (int node = -1; node < 10; node++) {
            call("nodeType", slot, node);
            call("parent", slot, node);
        }
        for (int v = 0; v < 5; v++) call("depth", slot, v);
        call("writeFormula", slot);
        for (int i = -1; i < 15; i++) call("output", i);
    }

    private void callAny(Method m) throws ReflectiveOperationException {
        String name = m.getName();
        // These change so much that runs would stay shallow if they came as often as others.
        if ((name.equals("setVariables") || name.equals("restore")) && dice.nextInt(4) != 0) return;
        Object[] args = new Object[m.getParameterCount()];
        for (int i = 0; i < args.length; i++) {
            if (m.getParameterTypes()[i] == long.class) args[i] = someTable();
            else if (name.equals("feed")) args[i] = dice.nextInt(10) == 0 ? odd() : "abcde01+*!()".charAt(dice.nextInt(12));
            else args[i] = someInt(name, i);
        }
        for (int i = 0; i < args.length; i++) if (args[i] instanceof Character c) args[i] = (int) c;
        call(name, args);
    }

    private int odd() {
        return ODD[dice.nextInt(ODD.length)];
    }

    private int someInt(String name, int i) {
        if (dice.nextInt(25) == 0) return odd();
        int n = model.variables();
        if (name.equals("addSample") && i == 1) return dice.nextInt(2);
        if (name.equals("addSample") || name.equals("removeSample")) return dice.nextInt(1 << n);
        if (name.equals("value") && i == 1) return dice.nextInt(1 << n);
        if (name.equals("extension")) return dice.nextInt(1 + dice.nextInt(900));
        if (name.equals("readOnceTrials")) return i == 0 ? dice.nextInt() : i == 1 ? dice.nextInt(13) : 1 + dice.nextInt(30);
        if (name.equals("combine") && i == 0) return dice.nextInt(3);
        if (name.equals("cofactor") && i == 2) return dice.nextInt(2);
        if (name.equals("createArray")) return i == 0 ? dice.nextInt(4) : dice.nextInt(17);
        if ((name.equals("setElement") || name.equals("element") || name.equals("compare")) && i == 0) return dice.nextInt(4);
        if (name.equals("setElement") && i == 2) return dice.nextInt(34) - 2;
        if (name.equals("addStep") && i == 0) return dice.nextInt(6);
        if (name.equals("setVariables")) return 1 + dice.nextInt(5);
        return dice.nextInt(dice.nextBoolean() ? 8 : Math.max(1, n));
    }

    private long someTable() {
        long full = (1L << (1 << model.variables())) - 1;
        return switch (dice.nextInt(8)) {
            case 0 -> 0L;
            case 1 -> full;
            case 2 -> new long[] {full + 1, -1L, Long.MIN_VALUE, Long.MAX_VALUE, 1L << 32, 1L << 40}[dice.nextInt(6)];
            default -> dice.nextLong() & full;
        };
    }

    private void call(String name, Object... args) throws ReflectiveOperationException {
        if (calls >= CALLS || wrong) return;
        calls++;
        Class<?>[] types = new Class<?>[args.length];
        for (int i = 0; i < args.length; i++) types[i] = args[i] instanceof Long ? long.class : int.class;
        long got = ((Number) ReadOnceRecognizer.class.getMethod(name, types).invoke(real, args)).longValue();
        long want = ((Number) Model.class.getDeclaredMethod(name, types).invoke(model, args)).longValue();
        told.add(name + Arrays.toString(args) + " " + got);
        if (got != want) {
            wrong = true;
            System.out.println(String.join("; ", told) + " but due is " + want);
        }
    }
}
