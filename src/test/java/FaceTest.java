import java.io.IOException;
import java.lang.reflect.Constructor;
import java.lang.reflect.Field;
import java.lang.reflect.Method;
import java.lang.reflect.Modifier;
import java.nio.file.Files;
import java.nio.file.Path;
import java.util.Arrays;
import java.util.List;
import java.util.Set;
import java.util.TreeSet;
import java.util.regex.Matcher;
import java.util.regex.Pattern;

/** The public face is the document's, and the source keeps to those rules of LANGUAGE.md that a program can see. */
public final class FaceTest {
    private static final Due due = new Due();
    private static final Path DOCUMENT = Path.of("../shared/DOC.md");
    private static final Path SOURCE = Path.of("src/main/java/ReadOnceRecognizer.java");

    public static void main(String[] args) throws IOException, ReflectiveOperationException {
        publicMembers();
        constants();
        ruleOne();
        staticFields();
        words();
        longMethods();
        placesThatMake();
        due.end();
    }

    private static void publicMembers() throws IOException {
        due.section("the face");
        String text = Files.readString(DOCUMENT);
        int from = text.indexOf("public final class ReadOnceRecognizer {");
        Set<String> want = new TreeSet<>();
        for (String line : text.substring(from, text.indexOf("```", from)).split("\n")) {
            if (line.startsWith("    public ")) {
                want.add(line.strip().replaceAll("(int|long) \\w+([,)])", "$1$2").replaceAll(" = .*", ""));
            }
        }
        Set<String> got = new TreeSet<>();
        Class<?> face = ReadOnceRecognizer.class;
        for (Field f : face.getDeclaredFields()) {
            if (Modifier.isPublic(f.getModifiers())) {
                got.add("public static final " + f.getType() + " " + f.getName());
            }
        }
        for (Method m : face.getDeclaredMethods()) {
            if (Modifier.isPublic(m.getModifiers())) {
                got.add("public " + m.getReturnType() + " " + m.getName() + types(m.getParameterTypes()) + ";");
            }
        }
        for (Constructor<?> c : face.getDeclaredConstructors()) {
            got.add("public ReadOnceRecognizer" + types(c.getParameterTypes()) + ";");
        }
        due.is("56 members in the document", want.size(), 56);
        due.holds(want + " is " + got, want.equals(got));
        due.holds("public and final", Modifier.isPublic(face.getModifiers()) && Modifier.isFinal(face.getModifiers()));
    }

    /** The constants have the values that the document's face and its list of constants both tell. */
    private static void constants() throws IOException, ReflectiveOperationException {
        due.section("the constants");
        String text = Files.readString(DOCUMENT);
        for (String line : new Document().constants()) {
            String[] parts = line.split(" = ");
            due.is(parts[0], ReadOnceRecognizer.class.getField(parts[0]).getInt(null), Integer.parseInt(parts[1]));
            due.holds(line + " in the face", text.contains("    public static final int " + line + ";"));
        }
        due.is("seven", new Document().constants().size(), 7);
    }

    private static String types(Class<?>[] types) {
        return Arrays.toString(types).replace('[', '(').replace(']', ')');
    }

    private static void ruleOne() {
        due.section("rule 1");
        Class<?> face = ReadOnceRecognizer.class;
        Set<String> open = new TreeSet<>();
        for (Method m : face.getDeclaredMethods()) {
            if (Modifier.isPublic(m.getModifiers())) {
                open.add(m.getName());
            } else {
                due.holds(m + " is private", Modifier.isPrivate(m.getModifiers()));
            }
        }
        for (Field f : face.getDeclaredFields()) {
            due.holds(f + " is public or private", Modifier.isPublic(f.getModifiers()) || Modifier.isPrivate(f.getModifiers()));
        }
        for (Method m : face.getDeclaredMethods()) {
            due.holds(m + " bears its own name", Modifier.isPublic(m.getModifiers()) || !open.contains(m.getName()));
        }
        due.holds("at most twelve classes", face.getDeclaredClasses().length < 12);
        for (Class<?> inside : face.getDeclaredClasses()) {
            due.holds(inside + " is static", Modifier.isStatic(inside.getModifiers()));
            for (Method m : inside.getDeclaredMethods()) {
                due.holds(m + " bears its own name", !open.contains(m.getName()));
                due.holds(m + " has few parameters", m.getParameterCount() <= 7);
            }
        }
    }

    private static void staticFields() {
        due.section("rule 5");
        for (Class<?> c : new Class<?>[] {ReadOnceRecognizer.class}) {
            finals(c);
            for (Class<?> inside : c.getDeclaredClasses()) {
                finals(inside);
            }
        }
    }

    private static void finals(Class<?> c) {
        int own = 0;
        for (Field f : c.getDeclaredFields()) {
            if (Modifier.isStatic(f.getModifiers())) {
                due.holds(f + " is final", Modifier.isFinal(f.getModifiers()));
            } else {
                own++;
            }
        }
        due.holds(c + " has at most twenty fields", own <= 20);
    }

    private static void words() throws IOException {
        due.section("rules 2, 4, 6, 13");
        String code = Files.readString(SOURCE).replaceAll("(?s)/\\*.*?\\*/", "").replaceAll("//[^\n]*", "");
        String none = "\\b(throw|throws|try|catch|finally|synchronized|assert|protected|package|volatile|native|transient"
            + "|System\\.(?!arraycopy)\\w+|Random|Thread|Object|Exception|var|equals|hashCode|toString|\\w+Exact)\\b|->|::";
        Matcher found = Pattern.compile(none).matcher(code);
        while (found.find()) {
            due.holds("no " + found.group(), false);
        }
        Matcher imports = Pattern.compile("import ([\\w.]+);").matcher(code);
        while (imports.find()) {
            due.holds("import " + imports.group(1), Set.of("java.util.Arrays").contains(imports.group(1)));
        }
    }

    private static void longMethods() throws IOException {
        due.section("rule 11");
        List<String> lines = Files.readAllLines(SOURCE);
        int methods = 0;
        for (int from = 0; from < lines.size(); from++) {
            Matcher head = Pattern.compile("^( {4}| {8})\\S.*\\) \\{$").matcher(lines.get(from));
            if (head.find() && !lines.get(from).matches(" +(if|for|while|switch) .*")) {
                methods++;
                int length = lines.subList(from, lines.size()).indexOf(head.group(1) + "}") + 1;
                due.holds(lines.get(from).strip() + " has " + length + " lines", length >= 1 && length <= 60);
            }
        }
        due.holds(methods + " methods are found", methods >= 100);
    }

    /** Objects are made with the recognizer, or once at the first question that needs the catalog. */
    private static void placesThatMake() throws IOException {
        due.section("rule 12");
        for (String line : Files.readAllLines(SOURCE)) {
            boolean inAField = line.matches(" +private (static )?final [\\w\\[\\]]+ \\w+ = new .*");
            boolean inTheCatalog = line.matches(" +(catalog = new Catalog\\(\\)|int\\[\\] starts = new int\\[MAX_POINTS\\]);");
            due.holds(line.strip(), inAField || inTheCatalog || !line.matches(".*\\bnew [A-Za-z].*[(\\[].*"));
        }
    }
}
